abbrev rm_X11_isPin : Room := { frames := 0, cells := 0, slots := 0, locals := 0 }
def f_X11_isPin_0 (σ : Mem) (a1 : Int32) : Option (Int32) :=
  (if a1 < 0 then some (0 : Int32) else (if (gI σ 0 0) ≤ a1 then some (0 : Int32) else some (1 : Int32)))
def f_X11_isPin (σ : Mem) (a1 : Int32) : Option (Int32) :=
  f_X11_isPin_0 σ a1
abbrev rm_X11_isRod : Room := { frames := 0, cells := 0, slots := 0, locals := 0 }
def f_X11_isRod_0 (σ : Mem) (a1 : Int32) : Option (Int32) :=
  (if a1 < 0 then some (0 : Int32) else (if (gI σ 1 0) ≤ a1 then some (0 : Int32) else some (1 : Int32)))
def f_X11_isRod (σ : Mem) (a1 : Int32) : Option (Int32) :=
  f_X11_isRod_0 σ a1
abbrev rm_X11_isPlace : Room := { frames := 0, cells := 0, slots := 0, locals := 0 }
def f_X11_isPlace_0 (a1 : Int32) : Option (Int32) :=
  (if a1 < 0 then some (0 : Int32) else (if (5 : Int32) < a1 then some (0 : Int32) else some (1 : Int32)))
def f_X11_isPlace (a1 : Int32) : Option (Int32) :=
  f_X11_isPlace_0 a1
abbrev rm_X11_pinAt : Room := { frames := 0, cells := 0, slots := 0, locals := 0 }
def f_X11_pinAt_2 (σ : Mem) : Nat → Int32 → Int32 → Int32 → Option (Int32)
  | 0, _, _, _ => none
  | n + 1, v1, v2, v3 => (if (gI σ 0 0) ≤ v3 then some (-1 : Int32) else (if inB v3 6 = true then (if (gI σ 2 v3.toNatClampNeg) = v1 then (if (gI σ 3 v3.toNatClampNeg) = v2 then some v3 else f_X11_pinAt_2 σ n v1 v2 (v3 + (1 : Int32))) else f_X11_pinAt_2 σ n v1 v2 (v3 + (1 : Int32))) else none))
def f_X11_pinAt_0 (σ : Mem) (a1 : Int32) (a2 : Int32) : Option (Int32) :=
  f_X11_pinAt_2 σ FU a1 a2 (0 : Int32)
def f_X11_pinAt (σ : Mem) (a1 : Int32) (a2 : Int32) : Option (Int32) :=
  f_X11_pinAt_0 σ a1 a2
abbrev rm_X11_gcd : Room := { frames := 0, cells := 0, slots := 0, locals := 0 }
def f_X11_gcd_28 : Nat → Int64 → Int64 → Option (Int64)
  | 0, _, _ => none
  | n + 1, v4, v6 => (if v6 = (0 : Int64) then some v4 else (if v6 = 0 then none else f_X11_gcd_28 n v6 (v4 - v4 / v6 * v6)))
def f_X11_gcd_12 (v2 : Int64) (s0 : Int64) : Option (Int64) :=
  (if (0 : Int64) ≤ v2 then f_X11_gcd_28 FU s0 v2 else f_X11_gcd_28 FU s0 (-v2))
def f_X11_gcd_0 (a1 : Int64) (a2 : Int64) : Option (Int64) :=
  (if (0 : Int64) ≤ a1 then f_X11_gcd_12 a2 a1 else f_X11_gcd_12 a2 (-a1))
def f_X11_gcd (a1 : Int64) (a2 : Int64) : Option (Int64) :=
  f_X11_gcd_0 a1 a2
abbrev rm_X11_lower : Room := { frames := 1, cells := 0, slots := 0, locals := 29 }
def f_X11_lower_43 : Nat → Mem → Int32 → Int32 → Int64 → Int32 → Option (Mem)
  | 0, _, _, _, _, _ => none
  | n + 1, σ, v1, v2, v3, v5 => (if v2 ≤ v5 then some σ else (if inB (((16 : Int32) * v1) + v5) 256 = true then (if v3 = 0 then none else f_X11_lower_43 n (wL σ 12 ((((16 : Int32) * v1) + v5).toNatClampNeg) ((gL σ 12 (((16 : Int32) * v1) + v5).toNatClampNeg) / v3)) v1 v2 v3 (v5 + (1 : Int32))) else none))
def f_X11_lower_5 : Nat → Mem → Int32 → Int32 → Int64 → Int32 → Option (Mem)
  | 0, _, _, _, _, _ => none
  | n + 1, σ, v1, v2, v3, v5 => (if v2 ≤ v5 then (if v3 ≤ (1 : Int64) then some σ else f_X11_lower_43 FU σ v1 v2 v3 (0 : Int32)) else (if inB (((16 : Int32) * v1) + v5) 256 = true then ((f_X11_gcd v3 (gL σ 12 (((16 : Int32) * v1) + v5).toNatClampNeg)).bind fun q4 => f_X11_lower_5 n σ v1 v2 q4 (v5 + (1 : Int32))) else none))
def f_X11_lower_0 (σ : Mem) (a1 : Int32) (a2 : Int32) : Option (Mem) :=
  f_X11_lower_5 FU σ a1 a2 (0 : Int64) (0 : Int32)
def f_X11_lower (σ : Mem) (a1 : Int32) (a2 : Int32) : Option (Mem) :=
  f_X11_lower_0 σ a1 a2
abbrev rm_X11_steps : Room := { frames := 2, cells := 0, slots := 0, locals := 54 }
def f_X11_steps_259 (k26 : Mem → Int32 → Int32 → Int32 → Option (Mem × Int32)) (k160 : Mem → Int32 → Int32 → Int32 → Int32 → Option (Mem × Int32)) : Nat → Mem → Int32 → Int32 → Int32 → Int32 → Int64 → Int64 → Int32 → Option (Mem × Int32)
  | 0, _, _, _, _, _, _, _, _ => none
  | n + 1, σ, v1, v2, v3, v5, v8, v10, v12 => (if v1 ≤ v12 then ((f_X11_lower σ v5 v1).bind fun q2 => k160 q2 v1 v2 v3 (v5 + (1 : Int32))) else (if inB (((16 : Int32) * v5) + v12) 256 = true then (if inB (((16 : Int32) * v2) + v12) 256 = true then f_X11_steps_259 k26 k160 n (wL σ 12 ((((16 : Int32) * v5) + v12).toNatClampNeg) (((gL σ 12 (((16 : Int32) * v5) + v12).toNatClampNeg) * v8) - ((gL σ 12 (((16 : Int32) * v2) + v12).toNatClampNeg) * v10))) v1 v2 v3 v5 v8 v10 (v12 + (1 : Int32)) else none) else none))
def f_X11_steps_160 (k26 : Mem → Int32 → Int32 → Int32 → Option (Mem × Int32)) : Nat → Mem → Int32 → Int32 → Int32 → Int32 → Option (Mem × Int32)
  | 0, _, _, _, _, _ => none
  | n + 1, σ, v1, v2, v3, v5 => (if (gI σ 13 0) ≤ v5 then (if inB v3 16 = true then k26 (wI σ 15 v3.toNatClampNeg v2) v1 (v2 + (1 : Int32)) (v3 + (1 : Int32)) else none) else (if v5 = v2 then f_X11_steps_160 k26 n σ v1 v2 v3 (v5 + (1 : Int32)) else (if inB (((16 : Int32) * v5) + v3) 256 = true then (if (gL σ 12 (((16 : Int32) * v5) + v3).toNatClampNeg) = (0 : Int64) then f_X11_steps_160 k26 n σ v1 v2 v3 (v5 + (1 : Int32)) else (if inB (((16 : Int32) * v2) + v3) 256 = true then ((f_X11_gcd (gL σ 12 (((16 : Int32) * v5) + v3).toNatClampNeg) (gL σ 12 (((16 : Int32) * v2) + v3).toNatClampNeg)).bind fun q7 => (if q7 = 0 then none else f_X11_steps_259 k26 (f_X11_steps_160 k26 n) FU σ v1 v2 v3 v5 ((gL σ 12 (((16 : Int32) * v2) + v3).toNatClampNeg) / q7) ((gL σ 12 (((16 : Int32) * v5) + v3).toNatClampNeg) / q7) (0 : Int32))) else none)) else none)))
def f_X11_steps_91 (k26 : Mem → Int32 → Int32 → Int32 → Option (Mem × Int32)) : Nat → Mem → Int32 → Int32 → Int32 → Int32 → Int32 → Option (Mem × Int32)
  | 0, _, _, _, _, _, _ => none
  | n + 1, σ, v1, v2, v3, v4, v5 => (if v1 ≤ v5 then f_X11_steps_160 k26 FU σ v1 v2 v3 (0 : Int32) else (if inB (((16 : Int32) * v4) + v5) 256 = true then (if inB (((16 : Int32) * v2) + v5) 256 = true then f_X11_steps_91 k26 n (wL (wL σ 12 ((((16 : Int32) * v4) + v5).toNatClampNeg) (gL σ 12 (((16 : Int32) * v2) + v5).toNatClampNeg)) 12 ((((16 : Int32) * v2) + v5).toNatClampNeg) (gL σ 12 (((16 : Int32) * v4) + v5).toNatClampNeg)) v1 v2 v3 v4 (v5 + (1 : Int32)) else none) else none))
def f_X11_steps_76 (k26 : Mem → Int32 → Int32 → Int32 → Option (Mem × Int32)) (σ : Mem) (v1 : Int32) (v2 : Int32) (v3 : Int32) (v4 : Int32) : Option (Mem × Int32) :=
  (if v4 < (gI σ 13 0) then f_X11_steps_91 k26 FU σ v1 v2 v3 v4 (0 : Int32) else k26 σ v1 v2 (v3 + (1 : Int32)))
def f_X11_steps_44 (k26 : Mem → Int32 → Int32 → Int32 → Option (Mem × Int32)) : Nat → Mem → Int32 → Int32 → Int32 → Int32 → Option (Mem × Int32)
  | 0, _, _, _, _, _ => none
  | n + 1, σ, v1, v2, v3, v4 => (if (gI σ 13 0) ≤ v4 then f_X11_steps_76 k26 σ v1 v2 v3 v4 else (if inB (((16 : Int32) * v4) + v3) 256 = true then (if (gL σ 12 (((16 : Int32) * v4) + v3).toNatClampNeg) = (0 : Int64) then f_X11_steps_44 k26 n σ v1 v2 v3 (v4 + (1 : Int32)) else f_X11_steps_76 k26 σ v1 v2 v3 v4) else none))
def f_X11_steps_26 : Nat → Mem → Int32 → Int32 → Int32 → Option (Mem × Int32)
  | 0, _, _, _, _ => none
  | n + 1, σ, v1, v2, v3 => (if (gI σ 14 0) ≤ v3 then some (σ, v2) else (if inB v3 16 = true then f_X11_steps_44 (f_X11_steps_26 n) FU (wI σ 15 v3.toNatClampNeg (-1 : Int32)) v1 v2 v3 v2 else none))
def f_X11_steps_4 : Nat → Mem → Int32 → Int32 → Int32 → Option (Mem × Int32)
  | 0, _, _, _, _ => none
  | n + 1, σ, v1, v2, v3 => (if (gI σ 13 0) ≤ v3 then f_X11_steps_26 FU σ v1 v2 (0 : Int32) else ((f_X11_lower σ v3 v1).bind fun q2 => f_X11_steps_4 n q2 v1 v2 (v3 + (1 : Int32))))
def f_X11_steps_0 (σ : Mem) (a1 : Int32) : Option (Mem × Int32) :=
  f_X11_steps_4 FU σ a1 (0 : Int32) (0 : Int32)
def f_X11_steps (σ : Mem) (a1 : Int32) : Option (Mem × Int32) :=
  f_X11_steps_0 σ a1
abbrev rm_X11_loose : Room := { frames := 0, cells := 0, slots := 0, locals := 0 }
def f_X11_loose_10 (σ : Mem) : Nat → Int32 → Int32 → Option (Int32)
  | 0, _, _ => none
  | n + 1, v2, v3 => (if (gI σ 14 0) ≤ v3 then some (-1 : Int32) else (if inB v3 16 = true then (if (gI σ 15 v3.toNatClampNeg) = (-1 : Int32) then (if v2 = 0 then some v3 else f_X11_loose_10 σ n (v2 + (-1 : Int32)) (v3 + (1 : Int32))) else f_X11_loose_10 σ n v2 (v3 + (1 : Int32))) else none))
def f_X11_loose_0 (σ : Mem) (a1 : Int32) : Option (Int32) :=
  (if 0 ≤ a1 then f_X11_loose_10 σ FU a1 (0 : Int32) else some (-1 : Int32))
def f_X11_loose (σ : Mem) (a1 : Int32) : Option (Int32) :=
  f_X11_loose_0 σ a1
abbrev rm_X11_nulOf : Room := { frames := 1, cells := 0, slots := 0, locals := 29 }
def f_X11_nulOf_262 : Nat → Mem → Int64 → Int32 → Option (Mem)
  | 0, _, _, _ => none
  | n + 1, σ, v4, v6 => (if (gI σ 14 0) ≤ v6 then some σ else (if inB v6 16 = true then (if v4 = 0 then none else f_X11_nulOf_262 n (wL σ 16 v6.toNatClampNeg ((gL σ 16 v6.toNatClampNeg) / v4)) v4 (v6 + (1 : Int32))) else none))
def f_X11_nulOf_230 : Nat → Mem → Int64 → Int32 → Option (Mem)
  | 0, _, _, _ => none
  | n + 1, σ, v4, v6 => (if (gI σ 14 0) ≤ v6 then f_X11_nulOf_262 FU σ v4 (0 : Int32) else (if inB v6 16 = true then ((f_X11_gcd v4 (gL σ 16 v6.toNatClampNeg)).bind fun q3 => f_X11_nulOf_230 n σ q3 (v6 + (1 : Int32))) else none))
def f_X11_nulOf_108 : Nat → Mem → Int32 → Int64 → Int32 → Option (Mem)
  | 0, _, _, _, _ => none
  | n + 1, σ, v1, v2, v4 => (if (gI σ 14 0) ≤ v4 then f_X11_nulOf_230 FU σ (0 : Int64) (0 : Int32) else (if inB v4 16 = true then (if (gI σ 15 v4.toNatClampNeg) = (-1 : Int32) then (if v4 = v1 then f_X11_nulOf_108 n (wL σ 16 v4.toNatClampNeg v2) v1 v2 (v4 + (1 : Int32)) else f_X11_nulOf_108 n (wL σ 16 v4.toNatClampNeg (0 : Int64)) v1 v2 (v4 + (1 : Int32))) else (if inB (((16 : Int32) * (gI σ 15 v4.toNatClampNeg)) + v4) 256 = true then (if inB (((16 : Int32) * (gI σ 15 v4.toNatClampNeg)) + v1) 256 = true then ((f_X11_gcd (gL σ 12 (((16 : Int32) * (gI σ 15 v4.toNatClampNeg)) + v4).toNatClampNeg) (gL σ 12 (((16 : Int32) * (gI σ 15 v4.toNatClampNeg)) + v1).toNatClampNeg)).bind fun q6 => (if q6 = 0 then none else (if ((gL σ 12 (((16 : Int32) * (gI σ 15 v4.toNatClampNeg)) + v4).toNatClampNeg) / q6) = 0 then none else f_X11_nulOf_108 n (wL σ 16 v4.toNatClampNeg ((-((gL σ 12 (((16 : Int32) * (gI σ 15 v4.toNatClampNeg)) + v1).toNatClampNeg) / q6)) * (v2 / ((gL σ 12 (((16 : Int32) * (gI σ 15 v4.toNatClampNeg)) + v4).toNatClampNeg) / q6)))) v1 v2 (v4 + (1 : Int32))))) else none) else none)) else none))
def f_X11_nulOf_87 (k5 : Mem → Int32 → Int64 → Int32 → Option (Mem)) (σ : Mem) (v1 : Int32) (v2 : Int64) (v4 : Int32) (v7 : Int64) : Option (Mem) :=
  ((f_X11_gcd v2 v7).bind fun q1 => (if q1 = 0 then none else k5 σ v1 ((v2 / q1) * v7) (v4 + (1 : Int32))))
def f_X11_nulOf_5 : Nat → Mem → Int32 → Int64 → Int32 → Option (Mem)
  | 0, _, _, _, _ => none
  | n + 1, σ, v1, v2, v4 => (if (gI σ 14 0) ≤ v4 then f_X11_nulOf_108 FU σ v1 v2 (0 : Int32) else (if inB v4 16 = true then (if (gI σ 15 v4.toNatClampNeg) = (-1 : Int32) then f_X11_nulOf_5 n σ v1 v2 (v4 + (1 : Int32)) else (if inB (((16 : Int32) * (gI σ 15 v4.toNatClampNeg)) + v4) 256 = true then (if inB (((16 : Int32) * (gI σ 15 v4.toNatClampNeg)) + v1) 256 = true then ((f_X11_gcd (gL σ 12 (((16 : Int32) * (gI σ 15 v4.toNatClampNeg)) + v4).toNatClampNeg) (gL σ 12 (((16 : Int32) * (gI σ 15 v4.toNatClampNeg)) + v1).toNatClampNeg)).bind fun q6 => (if q6 = 0 then none else (if (0 : Int64) ≤ ((gL σ 12 (((16 : Int32) * (gI σ 15 v4.toNatClampNeg)) + v4).toNatClampNeg) / q6) then f_X11_nulOf_87 (f_X11_nulOf_5 n) σ v1 v2 v4 ((gL σ 12 (((16 : Int32) * (gI σ 15 v4.toNatClampNeg)) + v4).toNatClampNeg) / q6) else f_X11_nulOf_87 (f_X11_nulOf_5 n) σ v1 v2 v4 (-((gL σ 12 (((16 : Int32) * (gI σ 15 v4.toNatClampNeg)) + v4).toNatClampNeg) / q6))))) else none) else none)) else none))
def f_X11_nulOf_0 (σ : Mem) (a1 : Int32) : Option (Mem) :=
  f_X11_nulOf_5 FU σ a1 (1 : Int64) (0 : Int32)
def f_X11_nulOf (σ : Mem) (a1 : Int32) : Option (Mem) :=
  f_X11_nulOf_0 σ a1
abbrev rm_X11_freeColumn : Room := { frames := 0, cells := 0, slots := 0, locals := 0 }
def f_X11_freeColumn_15 (σ : Mem) : Nat → Int32 → Int32 → Int32 → Option (Int32)
  | 0, _, _, _ => none
  | n + 1, v1, v2, v3 => (if v1 ≤ v3 then some v2 else (if inB v3 6 = true then (if (gI σ 6 v3.toNatClampNeg) = 0 then f_X11_freeColumn_15 σ n v1 (v2 + (2 : Int32)) (v3 + (1 : Int32)) else f_X11_freeColumn_15 σ n v1 v2 (v3 + (1 : Int32))) else none))
def f_X11_freeColumn_0 (σ : Mem) (a1 : Int32) : Option (Int32) :=
  (if inB a1 6 = true then (if (gI σ 6 a1.toNatClampNeg) = 0 then f_X11_freeColumn_15 σ FU a1 (0 : Int32) (0 : Int32) else some (-1 : Int32)) else none)
def f_X11_freeColumn (σ : Mem) (a1 : Int32) : Option (Int32) :=
  f_X11_freeColumn_0 σ a1
abbrev rm_X11_freePins : Room := { frames := 0, cells := 0, slots := 0, locals := 0 }
def f_X11_freePins_4 (σ : Mem) : Nat → Int32 → Int32 → Option (Int32)
  | 0, _, _ => none
  | n + 1, v1, v2 => (if (gI σ 0 0) ≤ v2 then some v1 else (if inB v2 6 = true then (if (gI σ 6 v2.toNatClampNeg) = 0 then f_X11_freePins_4 σ n (v1 + (1 : Int32)) (v2 + (1 : Int32)) else f_X11_freePins_4 σ n v1 (v2 + (1 : Int32))) else none))
def f_X11_freePins_0 (σ : Mem) : Option (Int32) :=
  f_X11_freePins_4 σ FU (0 : Int32) (0 : Int32)
def f_X11_freePins (σ : Mem) : Option (Int32) :=
  f_X11_freePins_0 σ
abbrev rm_X11_motionRow : Room := { frames := 1, cells := 0, slots := 0, locals := 23 }
def f_X11_motionRow_105 (σ : Mem) (v1 : Int32) (v2 : Int32) (v4 : Int32) : Option (Mem) :=
  (if v4 = (-1 : Int32) then some (wI σ 13 0 ((gI σ 13 0) + (1 : Int32))) else (if inB v2 6 = true then (if inB v1 6 = true then (if inB (((16 : Int32) * (gI σ 13 0)) + v4) 256 = true then (if inB ((((16 : Int32) * (gI (wL σ 12 ((((16 : Int32) * (gI σ 13 0)) + v4).toNatClampNeg) (((gI σ 2 v2.toNatClampNeg) - (gI σ 2 v1.toNatClampNeg)).toInt64)) 13 0)) + v4) + (1 : Int32)) 256 = true then some (wI (wL (wL σ 12 ((((16 : Int32) * (gI σ 13 0)) + v4).toNatClampNeg) (((gI σ 2 v2.toNatClampNeg) - (gI σ 2 v1.toNatClampNeg)).toInt64)) 12 (((((16 : Int32) * (gI (wL σ 12 ((((16 : Int32) * (gI σ 13 0)) + v4).toNatClampNeg) (((gI σ 2 v2.toNatClampNeg) - (gI σ 2 v1.toNatClampNeg)).toInt64)) 13 0)) + v4) + (1 : Int32)).toNatClampNeg) (((gI (wL σ 12 ((((16 : Int32) * (gI σ 13 0)) + v4).toNatClampNeg) (((gI σ 2 v2.toNatClampNeg) - (gI σ 2 v1.toNatClampNeg)).toInt64)) 3 v2.toNatClampNeg) - (gI (wL σ 12 ((((16 : Int32) * (gI σ 13 0)) + v4).toNatClampNeg) (((gI σ 2 v2.toNatClampNeg) - (gI σ 2 v1.toNatClampNeg)).toInt64)) 3 v1.toNatClampNeg)).toInt64)) 13 0 ((gI (wL (wL σ 12 ((((16 : Int32) * (gI σ 13 0)) + v4).toNatClampNeg) (((gI σ 2 v2.toNatClampNeg) - (gI σ 2 v1.toNatClampNeg)).toInt64)) 12 (((((16 : Int32) * (gI (wL σ 12 ((((16 : Int32) * (gI σ 13 0)) + v4).toNatClampNeg) (((gI σ 2 v2.toNatClampNeg) - (gI σ 2 v1.toNatClampNeg)).toInt64)) 13 0)) + v4) + (1 : Int32)).toNatClampNeg) (((gI (wL σ 12 ((((16 : Int32) * (gI σ 13 0)) + v4).toNatClampNeg) (((gI σ 2 v2.toNatClampNeg) - (gI σ 2 v1.toNatClampNeg)).toInt64)) 3 v2.toNatClampNeg) - (gI (wL σ 12 ((((16 : Int32) * (gI σ 13 0)) + v4).toNatClampNeg) (((gI σ 2 v2.toNatClampNeg) - (gI σ 2 v1.toNatClampNeg)).toInt64)) 3 v1.toNatClampNeg)).toInt64)) 13 0) + (1 : Int32))) else none) else none) else none) else none))
def f_X11_motionRow_2 : Nat → Mem → Int32 → Int32 → Int32 → Option (Mem)
  | 0, _, _, _, _ => none
  | n + 1, σ, v1, v2, v3 => (if (16 : Int32) ≤ v3 then ((f_X11_freeColumn σ v1).bind fun q2 => ((f_X11_freeColumn σ v2).bind fun q3 => (if q2 = (-1 : Int32) then f_X11_motionRow_105 σ v1 v2 q3 else (if inB v1 6 = true then (if inB v2 6 = true then (if inB (((16 : Int32) * (gI σ 13 0)) + q2) 256 = true then (if inB ((((16 : Int32) * (gI (wL σ 12 ((((16 : Int32) * (gI σ 13 0)) + q2).toNatClampNeg) (((gI σ 2 v1.toNatClampNeg) - (gI σ 2 v2.toNatClampNeg)).toInt64)) 13 0)) + q2) + (1 : Int32)) 256 = true then f_X11_motionRow_105 (wL (wL σ 12 ((((16 : Int32) * (gI σ 13 0)) + q2).toNatClampNeg) (((gI σ 2 v1.toNatClampNeg) - (gI σ 2 v2.toNatClampNeg)).toInt64)) 12 (((((16 : Int32) * (gI (wL σ 12 ((((16 : Int32) * (gI σ 13 0)) + q2).toNatClampNeg) (((gI σ 2 v1.toNatClampNeg) - (gI σ 2 v2.toNatClampNeg)).toInt64)) 13 0)) + q2) + (1 : Int32)).toNatClampNeg) (((gI (wL σ 12 ((((16 : Int32) * (gI σ 13 0)) + q2).toNatClampNeg) (((gI σ 2 v1.toNatClampNeg) - (gI σ 2 v2.toNatClampNeg)).toInt64)) 3 v1.toNatClampNeg) - (gI (wL σ 12 ((((16 : Int32) * (gI σ 13 0)) + q2).toNatClampNeg) (((gI σ 2 v1.toNatClampNeg) - (gI σ 2 v2.toNatClampNeg)).toInt64)) 3 v2.toNatClampNeg)).toInt64)) v1 v2 q3 else none) else none) else none) else none)))) else (if inB (((16 : Int32) * (gI σ 13 0)) + v3) 256 = true then f_X11_motionRow_2 n (wL σ 12 ((((16 : Int32) * (gI σ 13 0)) + v3).toNatClampNeg) (0 : Int64)) v1 v2 (v3 + (1 : Int32)) else none))
def f_X11_motionRow_0 (σ : Mem) (a1 : Int32) (a2 : Int32) : Option (Mem) :=
  f_X11_motionRow_2 FU σ a1 a2 (0 : Int32)
def f_X11_motionRow (σ : Mem) (a1 : Int32) (a2 : Int32) : Option (Mem) :=
  f_X11_motionRow_0 σ a1 a2
abbrev rm_X11_motionsOf_isIn : Room := { frames := 3, cells := 0, slots := 0, locals := 86 }
def f_X11_motionsOf_isIn_17 : Nat → Mem → Int32 → Option (Mem × Int32)
  | 0, _, _ => none
  | n + 1, σ, v2 => (if (gI σ 1 0) ≤ v2 then ((f_X11_steps σ (gI σ 14 0)).bind fun q2 => some (q2.1, (gI σ 14 0) - q2.2)) else (if inB v2 15 = true then (if (gI σ 11 v2.toNatClampNeg) = 0 then f_X11_motionsOf_isIn_17 n σ (v2 + (1 : Int32)) else ((f_X11_motionRow σ (gI σ 8 v2.toNatClampNeg) (gI σ 9 v2.toNatClampNeg)).bind fun q5 => f_X11_motionsOf_isIn_17 n q5 (v2 + (1 : Int32)))) else none))
def f_X11_motionsOf_isIn_0 (σ : Mem) : Option (Mem × Int32) :=
  ((f_X11_freePins (wI σ 13 0 (0 : Int32))).bind fun q1 => f_X11_motionsOf_isIn_17 FU (wI (wI σ 13 0 (0 : Int32)) 14 0 ((2 : Int32) * q1)) (0 : Int32))
def f_X11_motionsOf_isIn (σ : Mem) : Option (Mem × Int32) :=
  f_X11_motionsOf_isIn_0 σ
abbrev rm_X11_motionsOf_taken : Room := { frames := 3, cells := 0, slots := 0, locals := 86 }
def f_X11_motionsOf_taken_17 : Nat → Mem → Int32 → Option (Mem × Int32)
  | 0, _, _ => none
  | n + 1, σ, v2 => (if (gI σ 1 0) ≤ v2 then ((f_X11_steps σ (gI σ 14 0)).bind fun q2 => some (q2.1, (gI σ 14 0) - q2.2)) else (if inB v2 15 = true then (if (gI σ 20 v2.toNatClampNeg) = 0 then f_X11_motionsOf_taken_17 n σ (v2 + (1 : Int32)) else ((f_X11_motionRow σ (gI σ 8 v2.toNatClampNeg) (gI σ 9 v2.toNatClampNeg)).bind fun q5 => f_X11_motionsOf_taken_17 n q5 (v2 + (1 : Int32)))) else none))
def f_X11_motionsOf_taken_0 (σ : Mem) : Option (Mem × Int32) :=
  ((f_X11_freePins (wI σ 13 0 (0 : Int32))).bind fun q1 => f_X11_motionsOf_taken_17 FU (wI (wI σ 13 0 (0 : Int32)) 14 0 ((2 : Int32) * q1)) (0 : Int32))
def f_X11_motionsOf_taken (σ : Mem) : Option (Mem × Int32) :=
  f_X11_motionsOf_taken_0 σ
abbrev rm_X11_motions : Room := { frames := 4, cells := 0, slots := 0, locals := 108 }
def f_X11_motions_0 (σ : Mem) : Option (Mem × Int32) :=
  ((f_X11_motionsOf_isIn σ).bind fun q1 => some (q1.1, q1.2))
def f_X11_motions (σ : Mem) : Option (Mem × Int32) :=
  f_X11_motions_0 σ
abbrev rm_X11_planeMotions : Room := { frames := 1, cells := 0, slots := 0, locals := 22 }
def f_X11_planeMotions_0 (σ : Mem) : Option (Int32) :=
  ((f_X11_freePins σ).bind fun q1 => (if ((gI σ 0 0) - q1) = 0 then (if (2 : Int32) ≤ q1 then some (3 : Int32) else some ((2 : Int32) * q1)) else (if ((gI σ 0 0) - q1) = (1 : Int32) then (if q1 ≤ 0 then some (0 : Int32) else some (1 : Int32)) else some (0 : Int32))))
def f_X11_planeMotions (σ : Mem) : Option (Int32) :=
  f_X11_planeMotions_0 σ
abbrev rm_X11_isStiff_isIn : Room := { frames := 4, cells := 0, slots := 0, locals := 108 }
def f_X11_isStiff_isIn_0 (σ : Mem) : Option (Mem × Int32) :=
  ((f_X11_motionsOf_isIn σ).bind fun q1 => ((f_X11_planeMotions q1.1).bind fun q2 => (if q1.2 = q2 then some (q1.1, (1 : Int32)) else some (q1.1, (0 : Int32)))))
def f_X11_isStiff_isIn (σ : Mem) : Option (Mem × Int32) :=
  f_X11_isStiff_isIn_0 σ
abbrev rm_X11_isStiff_taken : Room := { frames := 4, cells := 0, slots := 0, locals := 108 }
def f_X11_isStiff_taken_0 (σ : Mem) : Option (Mem × Int32) :=
  ((f_X11_motionsOf_taken σ).bind fun q1 => ((f_X11_planeMotions q1.1).bind fun q2 => (if q1.2 = q2 then some (q1.1, (1 : Int32)) else some (q1.1, (0 : Int32)))))
def f_X11_isStiff_taken (σ : Mem) : Option (Mem × Int32) :=
  f_X11_isStiff_taken_0 σ
abbrev rm_X11_inCount : Room := { frames := 0, cells := 0, slots := 0, locals := 0 }
def f_X11_inCount_4 (σ : Mem) : Nat → Int32 → Int32 → Option (Int32)
  | 0, _, _ => none
  | n + 1, v1, v2 => (if (gI σ 1 0) ≤ v2 then some v1 else (if inB v2 15 = true then (if (gI σ 11 v2.toNatClampNeg) = 0 then f_X11_inCount_4 σ n v1 (v2 + (1 : Int32)) else f_X11_inCount_4 σ n (v1 + (1 : Int32)) (v2 + (1 : Int32))) else none))
def f_X11_inCount_0 (σ : Mem) : Option (Int32) :=
  f_X11_inCount_4 σ FU (0 : Int32) (0 : Int32)
def f_X11_inCount (σ : Mem) : Option (Int32) :=
  f_X11_inCount_0 σ
abbrev rm_X11_stresses : Room := { frames := 3, cells := 0, slots := 0, locals := 86 }
def f_X11_stresses_259 : Nat → Mem → Int32 → Option (Mem × Int32)
  | 0, _, _ => none
  | n + 1, σ, v1 => (if (gI σ 0 0) ≤ v1 then ((f_X11_steps σ ((gI σ 14 0) + (1 : Int32))).bind fun q2 => some (q2.1, (gI σ 14 0) - q2.2)) else ((f_X11_freeColumn σ v1).bind fun q3 => (if q3 = (-1 : Int32) then f_X11_stresses_259 n σ (v1 + (1 : Int32)) else (if inB v1 6 = true then (if inB (((16 : Int32) * q3) + (gI σ 14 0)) 256 = true then (if inB (((16 : Int32) * (q3 + (1 : Int32))) + (gI (wL σ 12 ((((16 : Int32) * q3) + (gI σ 14 0)).toNatClampNeg) ((gI σ 4 v1.toNatClampNeg).toInt64)) 14 0)) 256 = true then f_X11_stresses_259 n (wL (wL σ 12 ((((16 : Int32) * q3) + (gI σ 14 0)).toNatClampNeg) ((gI σ 4 v1.toNatClampNeg).toInt64)) 12 ((((16 : Int32) * (q3 + (1 : Int32))) + (gI (wL σ 12 ((((16 : Int32) * q3) + (gI σ 14 0)).toNatClampNeg) ((gI σ 4 v1.toNatClampNeg).toInt64)) 14 0)).toNatClampNeg) ((gI (wL σ 12 ((((16 : Int32) * q3) + (gI σ 14 0)).toNatClampNeg) ((gI σ 4 v1.toNatClampNeg).toInt64)) 5 v1.toNatClampNeg).toInt64)) (v1 + (1 : Int32)) else none) else none) else none))))
def f_X11_stresses_191 (k85 : Mem → Int32 → Option (Mem × Int32)) (σ : Mem) (v1 : Int32) (v2 : Int32) (v3 : Int32) (v5 : Int32) : Option (Mem × Int32) :=
  (if v5 = (-1 : Int32) then k85 σ (v1 + (1 : Int32)) else (if inB v3 6 = true then (if inB v2 6 = true then (if inB (((16 : Int32) * v5) + v1) 256 = true then (if inB (((16 : Int32) * (v5 + (1 : Int32))) + v1) 256 = true then k85 (wL (wL σ 12 ((((16 : Int32) * v5) + v1).toNatClampNeg) (((gI σ 2 v3.toNatClampNeg) - (gI σ 2 v2.toNatClampNeg)).toInt64)) 12 ((((16 : Int32) * (v5 + (1 : Int32))) + v1).toNatClampNeg) (((gI (wL σ 12 ((((16 : Int32) * v5) + v1).toNatClampNeg) (((gI σ 2 v3.toNatClampNeg) - (gI σ 2 v2.toNatClampNeg)).toInt64)) 3 v3.toNatClampNeg) - (gI (wL σ 12 ((((16 : Int32) * v5) + v1).toNatClampNeg) (((gI σ 2 v3.toNatClampNeg) - (gI σ 2 v2.toNatClampNeg)).toInt64)) 3 v2.toNatClampNeg)).toInt64)) (v1 + (1 : Int32)) else none) else none) else none) else none))
def f_X11_stresses_85 : Nat → Mem → Int32 → Option (Mem × Int32)
  | 0, _, _ => none
  | n + 1, σ, v1 => (if (gI σ 14 0) ≤ v1 then f_X11_stresses_259 FU σ (0 : Int32) else (if inB v1 15 = true then (if inB (gI σ 17 v1.toNatClampNeg) 15 = true then ((f_X11_freeColumn σ (gI σ 8 (gI σ 17 v1.toNatClampNeg).toNatClampNeg)).bind fun q4 => ((f_X11_freeColumn σ (gI σ 9 (gI σ 17 v1.toNatClampNeg).toNatClampNeg)).bind fun q5 => (if q4 = (-1 : Int32) then f_X11_stresses_191 (f_X11_stresses_85 n) σ v1 (gI σ 8 (gI σ 17 v1.toNatClampNeg).toNatClampNeg) (gI σ 9 (gI σ 17 v1.toNatClampNeg).toNatClampNeg) q5 else (if inB (gI σ 8 (gI σ 17 v1.toNatClampNeg).toNatClampNeg) 6 = true then (if inB (gI σ 9 (gI σ 17 v1.toNatClampNeg).toNatClampNeg) 6 = true then (if inB (((16 : Int32) * q4) + v1) 256 = true then (if inB (((16 : Int32) * (q4 + (1 : Int32))) + v1) 256 = true then f_X11_stresses_191 (f_X11_stresses_85 n) (wL (wL σ 12 ((((16 : Int32) * q4) + v1).toNatClampNeg) (((gI σ 2 (gI σ 8 (gI σ 17 v1.toNatClampNeg).toNatClampNeg).toNatClampNeg) - (gI σ 2 (gI σ 9 (gI σ 17 v1.toNatClampNeg).toNatClampNeg).toNatClampNeg)).toInt64)) 12 ((((16 : Int32) * (q4 + (1 : Int32))) + v1).toNatClampNeg) (((gI (wL σ 12 ((((16 : Int32) * q4) + v1).toNatClampNeg) (((gI σ 2 (gI σ 8 (gI σ 17 v1.toNatClampNeg).toNatClampNeg).toNatClampNeg) - (gI σ 2 (gI σ 9 (gI σ 17 v1.toNatClampNeg).toNatClampNeg).toNatClampNeg)).toInt64)) 3 (gI σ 8 (gI σ 17 v1.toNatClampNeg).toNatClampNeg).toNatClampNeg) - (gI (wL σ 12 ((((16 : Int32) * q4) + v1).toNatClampNeg) (((gI σ 2 (gI σ 8 (gI σ 17 v1.toNatClampNeg).toNatClampNeg).toNatClampNeg) - (gI σ 2 (gI σ 9 (gI σ 17 v1.toNatClampNeg).toNatClampNeg).toNatClampNeg)).toInt64)) 3 (gI σ 9 (gI σ 17 v1.toNatClampNeg).toNatClampNeg).toNatClampNeg)).toInt64)) v1 (gI σ 8 (gI σ 17 v1.toNatClampNeg).toNatClampNeg) (gI σ 9 (gI σ 17 v1.toNatClampNeg).toNatClampNeg) q5 else none) else none) else none) else none)))) else none) else none))
def f_X11_stresses_59 : Nat → Mem → Int32 → Option (Mem × Int32)
  | 0, _, _ => none
  | n + 1, σ, v1 => (if ((16 : Int32) * (gI σ 13 0)) ≤ v1 then f_X11_stresses_85 FU σ (0 : Int32) else (if inB v1 256 = true then f_X11_stresses_59 n (wL σ 12 v1.toNatClampNeg (0 : Int64)) (v1 + (1 : Int32)) else none))
def f_X11_stresses_17 : Nat → Mem → Int32 → Option (Mem × Int32)
  | 0, _, _ => none
  | n + 1, σ, v1 => (if (gI σ 1 0) ≤ v1 then f_X11_stresses_59 FU σ (0 : Int32) else (if inB v1 15 = true then (if (gI σ 11 v1.toNatClampNeg) = 0 then f_X11_stresses_17 n σ (v1 + (1 : Int32)) else (if inB (gI σ 14 0) 15 = true then f_X11_stresses_17 n (wI (wI σ 14 0 ((gI σ 14 0) + (1 : Int32))) 17 ((gI σ 14 0).toNatClampNeg) v1) (v1 + (1 : Int32)) else none)) else none))
def f_X11_stresses_0 (σ : Mem) : Option (Mem × Int32) :=
  ((f_X11_freePins σ).bind fun q1 => f_X11_stresses_17 FU (wI (wI σ 13 0 ((2 : Int32) * q1)) 14 0 (0 : Int32)) (0 : Int32))
def f_X11_stresses (σ : Mem) : Option (Mem × Int32) :=
  f_X11_stresses_0 σ
abbrev rm_X11_columnOf : Room := { frames := 0, cells := 0, slots := 0, locals := 0 }
def f_X11_columnOf_2 (σ : Mem) : Nat → Int32 → Int32 → Option (Int32)
  | 0, _, _ => none
  | n + 1, v1, v2 => (if (gI σ 14 0) ≤ v2 then some (-1 : Int32) else (if inB v2 15 = true then (if (gI σ 17 v2.toNatClampNeg) = v1 then some v2 else f_X11_columnOf_2 σ n v1 (v2 + (1 : Int32))) else none))
def f_X11_columnOf_0 (σ : Mem) (a1 : Int32) : Option (Int32) :=
  f_X11_columnOf_2 σ FU a1 (0 : Int32)
def f_X11_columnOf (σ : Mem) (a1 : Int32) : Option (Int32) :=
  f_X11_columnOf_0 σ a1
abbrev rm_X11_carries : Room := { frames := 0, cells := 0, slots := 0, locals := 0 }
def f_X11_carries_36 (σ : Mem) : Nat → Int32 → Option (Int32)
  | 0, _ => none
  | n + 1, v2 => (if (gI σ 13 0) ≤ v2 then some (1 : Int32) else (if inB (((16 : Int32) * v2) + (gI σ 14 0)) 256 = true then (if (gL σ 12 (((16 : Int32) * v2) + (gI σ 14 0)).toNatClampNeg) = (0 : Int64) then f_X11_carries_36 σ n (v2 + (1 : Int32)) else some (0 : Int32)) else none))
def f_X11_carries_7 (σ : Mem) : Nat → Int32 → Int32 → Option (Int32)
  | 0, _, _ => none
  | n + 1, v1, v2 => (if (gI σ 14 0) ≤ v2 then f_X11_carries_36 σ FU v1 else (if inB v2 16 = true then (if (gI σ 15 v2.toNatClampNeg) = (-1 : Int32) then f_X11_carries_7 σ n (v1 + (-1 : Int32)) (v2 + (1 : Int32)) else f_X11_carries_7 σ n v1 (v2 + (1 : Int32))) else none))
def f_X11_carries_0 (σ : Mem) : Option (Int32) :=
  f_X11_carries_7 σ FU (gI σ 14 0) (0 : Int32)
def f_X11_carries (σ : Mem) : Option (Int32) :=
  f_X11_carries_0 σ
abbrev rm_X11_isNeeded : Room := { frames := 4, cells := 0, slots := 0, locals := 111 }
def f_X11_isNeeded_25 : Nat → Mem → Int32 → Int32 → Int32 → Option (Mem × Int32)
  | 0, _, _, _, _ => none
  | n + 1, σ, v2, v3, v4 => (if v2 ≤ v4 then some (σ, (1 : Int32)) else ((f_X11_loose σ v4).bind fun q2 => ((f_X11_nulOf σ q2).bind fun q3 => (if inB v3 16 = true then (if (gL q3 16 v3.toNatClampNeg) = (0 : Int64) then f_X11_isNeeded_25 n q3 v2 v3 (v4 + (1 : Int32)) else some (q3, (0 : Int32))) else none))))
def f_X11_isNeeded_0 (σ : Mem) (a1 : Int32) : Option (Mem × Int32) :=
  (if inB a1 15 = true then (if (gI σ 11 a1.toNatClampNeg) = 0 then some (σ, (0 : Int32)) else ((f_X11_stresses σ).bind fun q3 => ((f_X11_columnOf q3.1 a1).bind fun q4 => f_X11_isNeeded_25 FU q3.1 q3.2 q4 (0 : Int32)))) else none)
def f_X11_isNeeded (σ : Mem) (a1 : Int32) : Option (Mem × Int32) :=
  f_X11_isNeeded_0 σ a1
abbrev rm_X11_size : Room := { frames := 0, cells := 0, slots := 0, locals := 0 }
def f_X11_size_4 : Nat → Int32 → Int32 → Option (Int32)
  | 0, _, _ => none
  | n + 1, v1, v2 => (if v2 = 0 then some v1 else f_X11_size_4 n (v1 + (1 : Int32)) (v2 &&& (v2 - (1 : Int32))))
def f_X11_size_0 (a1 : Int32) : Option (Int32) :=
  f_X11_size_4 FU (0 : Int32) a1
def f_X11_size (a1 : Int32) : Option (Int32) :=
  f_X11_size_0 a1
abbrev rm_X11_isBetween : Room := { frames := 0, cells := 0, slots := 0, locals := 0 }
def f_X11_isBetween_0 (σ : Mem) (a1 : Int32) (a2 : Int32) : Option (Int32) :=
  (if inB a1 15 = true then (if ((a2 >>> ((gI σ 8 a1.toNatClampNeg) &&& 31)) &&& (1 : Int32)) = 0 then some (0 : Int32) else (if ((a2 >>> ((gI σ 9 a1.toNatClampNeg) &&& 31)) &&& (1 : Int32)) = 0 then some (0 : Int32) else some (1 : Int32))) else none)
def f_X11_isBetween (σ : Mem) (a1 : Int32) (a2 : Int32) : Option (Int32) :=
  f_X11_isBetween_0 σ a1 a2
abbrev rm_X11_isEven : Room := { frames := 1, cells := 0, slots := 0, locals := 22 }
def f_X11_isEven_31 (σ : Mem) (k2 : Int32 → Int32 → Option (Int32)) : Nat → Int32 → Int32 → Int32 → Int32 → Int32 → Option (Int32)
  | 0, _, _, _, _, _ => none
  | n + 1, v1, v2, v3, v4, v5 => (if v1 < v5 then (if v4 ≤ (((2 : Int32) * v3) - (3 : Int32)) then k2 v1 (v2 + (1 : Int32)) else some (0 : Int32)) else (if inB v5 15 = true then (if (gI σ 21 v5.toNatClampNeg) = 0 then f_X11_isEven_31 σ k2 n v1 v2 v3 v4 (v5 + (1 : Int32)) else ((f_X11_isBetween σ v5 v2).bind fun q5 => (if q5 = 0 then f_X11_isEven_31 σ k2 n v1 v2 v3 v4 (v5 + (1 : Int32)) else f_X11_isEven_31 σ k2 n v1 v2 v3 (v4 + (1 : Int32)) (v5 + (1 : Int32))))) else none))
def f_X11_isEven_2 (σ : Mem) : Nat → Int32 → Int32 → Option (Int32)
  | 0, _, _ => none
  | n + 1, v1, v2 => (if ((1 : Int32) <<< ((gI σ 0 0) &&& 31)) ≤ v2 then some (1 : Int32) else ((f_X11_size v2).bind fun q2 => (if (2 : Int32) ≤ q2 then f_X11_isEven_31 σ (f_X11_isEven_2 σ n) FU v1 v2 q2 (0 : Int32) (0 : Int32) else f_X11_isEven_2 σ n v1 (v2 + (1 : Int32)))))
def f_X11_isEven_0 (σ : Mem) (a1 : Int32) : Option (Int32) :=
  f_X11_isEven_2 σ FU a1 (0 : Int32)
def f_X11_isEven (σ : Mem) (a1 : Int32) : Option (Int32) :=
  f_X11_isEven_0 σ a1
abbrev rm_X11_even : Room := { frames := 2, cells := 0, slots := 0, locals := 47 }
def f_X11_even_4 : Nat → Mem → Int32 → Int32 → Int32 → Option (Mem × Int32)
  | 0, _, _, _, _ => none
  | n + 1, σ, v1, v2, v3 => (if (gI σ 1 0) ≤ v3 then some (σ, v2) else (if inB v3 15 = true then (if (gI (wI σ 21 v3.toNatClampNeg (0 : Int32)) 11 v3.toNatClampNeg) = 0 then f_X11_even_4 n (wI σ 21 v3.toNatClampNeg (0 : Int32)) v1 v2 (v3 + (1 : Int32)) else ((f_X11_isBetween (wI σ 21 v3.toNatClampNeg (0 : Int32)) v3 v1).bind fun q4 => (if q4 = 0 then f_X11_even_4 n (wI σ 21 v3.toNatClampNeg (0 : Int32)) v1 v2 (v3 + (1 : Int32)) else ((f_X11_isEven (wI (wI σ 21 v3.toNatClampNeg (0 : Int32)) 21 v3.toNatClampNeg (1 : Int32)) v3).bind fun q6 => (if q6 = 0 then f_X11_even_4 n (wI (wI (wI σ 21 v3.toNatClampNeg (0 : Int32)) 21 v3.toNatClampNeg (1 : Int32)) 21 v3.toNatClampNeg (0 : Int32)) v1 v2 (v3 + (1 : Int32)) else f_X11_even_4 n (wI (wI σ 21 v3.toNatClampNeg (0 : Int32)) 21 v3.toNatClampNeg (1 : Int32)) v1 (v2 + (1 : Int32)) (v3 + (1 : Int32))))))) else none))
def f_X11_even_0 (σ : Mem) (a1 : Int32) : Option (Mem × Int32) :=
  f_X11_even_4 FU σ a1 (0 : Int32) (0 : Int32)
def f_X11_even (σ : Mem) (a1 : Int32) : Option (Mem × Int32) :=
  f_X11_even_0 σ a1
abbrev rm_X11_isAhead : Room := { frames := 0, cells := 0, slots := 0, locals := 0 }
def f_X11_isAhead_66 (v3 : Int32) (v4 : Int32) : Option (Int32) :=
  (if v3 = 0 then (if v4 = 0 then some (0 : Int32) else some (1 : Int32)) else some (0 : Int32))
def f_X11_isAhead_5 : Nat → Int32 → Int32 → Option (Int32)
  | 0, _, _ => none
  | n + 1, v3, v4 => (if v3 = 0 then f_X11_isAhead_66 v3 v4 else (if v4 = 0 then f_X11_isAhead_66 v3 v4 else (if (v3 &&& (-v3)) = (v4 &&& (-v4)) then f_X11_isAhead_5 n (v3 &&& (v3 - (1 : Int32))) (v4 &&& (v4 - (1 : Int32))) else (if (v4 &&& (-v4)) ≤ (v3 &&& (-v3)) then some (0 : Int32) else some (1 : Int32)))))
def f_X11_isAhead_0 (a1 : Int32) (a2 : Int32) : Option (Int32) :=
  f_X11_isAhead_5 FU a1 a2
def f_X11_isAhead (a1 : Int32) (a2 : Int32) : Option (Int32) :=
  f_X11_isAhead_0 a1 a2
abbrev rm_X11_findBodies : Room := { frames := 3, cells := 0, slots := 0, locals := 70 }
def f_X11_findBodies_194 : Nat → Mem → Int32 → Int32 → Option (Mem)
  | 0, _, _, _ => none
  | n + 1, σ, v1, v2 => (if v1 ≤ v2 then some (wI σ 18 0 v1) else (if inB v2 65 = true then (if inB v2 64 = true then f_X11_findBodies_194 n (wI σ 19 v2.toNatClampNeg (gI σ 31 v2.toNatClampNeg)) v1 (v2 + (1 : Int32)) else none) else none))
def f_X11_findBodies_125 (k112 : Mem → Int32 → Int32 → Option (Mem)) : Nat → Mem → Int32 → Int32 → Int32 → Int32 → Option (Mem)
  | 0, _, _, _, _, _ => none
  | n + 1, σ, v1, v2, v3, v4 => (if (gI σ 18 0) ≤ v4 then (if inB v2 64 = true then (if inB v1 65 = true then (if v3 = 0 then k112 (wI σ 31 v1.toNatClampNeg (gI σ 19 v2.toNatClampNeg)) v1 (v2 + (1 : Int32)) else k112 (wI σ 31 v1.toNatClampNeg (gI σ 19 v2.toNatClampNeg)) (v1 + (1 : Int32)) (v2 + (1 : Int32))) else none) else none) else (if v4 = v2 then f_X11_findBodies_125 k112 n σ v1 v2 v3 (v4 + (1 : Int32)) else (if inB v2 64 = true then (if inB v4 64 = true then (if ((gI σ 19 v2.toNatClampNeg) &&& ((gI σ 19 v4.toNatClampNeg) ^^^ (-1 : Int32))) = 0 then f_X11_findBodies_125 k112 n σ v1 v2 (0 : Int32) (v4 + (1 : Int32)) else f_X11_findBodies_125 k112 n σ v1 v2 v3 (v4 + (1 : Int32))) else none) else none)))
def f_X11_findBodies_112 : Nat → Mem → Int32 → Int32 → Option (Mem)
  | 0, _, _, _ => none
  | n + 1, σ, v1, v2 => (if (gI σ 18 0) ≤ v2 then f_X11_findBodies_194 FU σ v1 (0 : Int32) else f_X11_findBodies_125 (f_X11_findBodies_112 n) FU σ v1 v2 (1 : Int32) (0 : Int32))
def f_X11_findBodies_55 (k7 : Mem → Int32 → Option (Mem)) : Nat → Mem → Int32 → Int32 → Option (Mem)
  | 0, _, _, _ => none
  | n + 1, σ, v1, v3 => (if v3 ≤ 0 then (if inB v3 64 = true then k7 (wI σ 19 v3.toNatClampNeg v1) (v1 + (1 : Int32)) else none) else (if inB (v3 - (1 : Int32)) 64 = true then ((f_X11_isAhead v1 (gI σ 19 (v3 - (1 : Int32)).toNatClampNeg)).bind fun q4 => (if q4 = 0 then (if inB v3 64 = true then k7 (wI σ 19 v3.toNatClampNeg v1) (v1 + (1 : Int32)) else none) else (if inB v3 64 = true then f_X11_findBodies_55 k7 n (wI σ 19 v3.toNatClampNeg (gI σ 19 (v3 - (1 : Int32)).toNatClampNeg)) v1 (v3 + (-1 : Int32)) else none))) else none))
def f_X11_findBodies_7 : Nat → Mem → Int32 → Option (Mem)
  | 0, _, _ => none
  | n + 1, σ, v1 => (if ((1 : Int32) <<< ((gI σ 0 0) &&& 31)) ≤ v1 then f_X11_findBodies_112 FU σ (0 : Int32) (0 : Int32) else ((f_X11_size v1).bind fun q2 => (if q2 < (2 : Int32) then f_X11_findBodies_7 n σ (v1 + (1 : Int32)) else ((f_X11_even σ v1).bind fun q4 => (if q4.2 = (((2 : Int32) * q2) - (3 : Int32)) then f_X11_findBodies_55 (f_X11_findBodies_7 n) FU (wI q4.1 18 0 ((gI q4.1 18 0) + (1 : Int32))) v1 (gI q4.1 18 0) else f_X11_findBodies_7 n q4.1 (v1 + (1 : Int32)))))))
def f_X11_findBodies_0 (σ : Mem) : Option (Mem) :=
  f_X11_findBodies_7 FU (wI σ 18 0 (0 : Int32)) (0 : Int32)
def f_X11_findBodies (σ : Mem) : Option (Mem) :=
  f_X11_findBodies_0 σ
abbrev rm_X11_cheapestLeft : Room := { frames := 0, cells := 0, slots := 0, locals := 0 }
def f_X11_cheapestLeft_4 (σ : Mem) : Nat → Int32 → Int32 → Option (Int32)
  | 0, _, _ => none
  | n + 1, v1, v2 => (if (gI σ 1 0) ≤ v2 then some v1 else (if inB v2 15 = true then (if (gI σ 22 v2.toNatClampNeg) = 0 then (if v1 = (-1 : Int32) then f_X11_cheapestLeft_4 σ n v2 (v2 + (1 : Int32)) else (if inB v1 15 = true then (if (gI σ 10 v1.toNatClampNeg) ≤ (gI σ 10 v2.toNatClampNeg) then f_X11_cheapestLeft_4 σ n v1 (v2 + (1 : Int32)) else f_X11_cheapestLeft_4 σ n v2 (v2 + (1 : Int32))) else none)) else f_X11_cheapestLeft_4 σ n v1 (v2 + (1 : Int32))) else none))
def f_X11_cheapestLeft_0 (σ : Mem) : Option (Int32) :=
  f_X11_cheapestLeft_4 σ FU (-1 : Int32) (0 : Int32)
def f_X11_cheapestLeft (σ : Mem) : Option (Int32) :=
  f_X11_cheapestLeft_0 σ
abbrev rm_X11_makePlan : Room := { frames := 4, cells := 0, slots := 0, locals := 108 }
def f_X11_makePlan_121 (k59 : Mem → Int32 → Int32 → Option (Mem)) (σ : Mem) (v1 : Int32) : Option (Mem) :=
  ((f_X11_cheapestLeft σ).bind fun q1 => k59 σ v1 q1)
def f_X11_makePlan_59 : Nat → Mem → Int32 → Int32 → Option (Mem)
  | 0, _, _, _ => none
  | n + 1, σ, v1, v2 => (if v2 = (-1 : Int32) then some σ else (if inB v2 15 = true then ((f_X11_motionsOf_taken (wI (wI σ 22 v2.toNatClampNeg (1 : Int32)) 20 v2.toNatClampNeg (1 : Int32))).bind fun q3 => (if v1 ≤ q3.2 then f_X11_makePlan_121 (f_X11_makePlan_59 n) (wI q3.1 20 v2.toNatClampNeg (0 : Int32)) v1 else (if inB (gI q3.1 23 0) 15 = true then f_X11_makePlan_121 (f_X11_makePlan_59 n) (wI (wI q3.1 23 0 ((gI q3.1 23 0) + (1 : Int32))) 24 ((gI q3.1 23 0).toNatClampNeg) v2) q3.2 else none))) else none))
def f_X11_makePlan_7 : Nat → Mem → Int32 → Option (Mem)
  | 0, _, _ => none
  | n + 1, σ, v1 => (if (gI σ 1 0) ≤ v1 then ((f_X11_motionsOf_taken σ).bind fun q2 => ((f_X11_cheapestLeft q2.1).bind fun q3 => f_X11_makePlan_59 FU q2.1 q2.2 q3)) else (if inB v1 15 = true then (if (gI σ 11 v1.toNatClampNeg) = 0 ∨ (gI σ 11 v1.toNatClampNeg) = 1 then (if (gI (wI σ 20 v1.toNatClampNeg (gI σ 11 v1.toNatClampNeg)) 11 v1.toNatClampNeg) = 0 ∨ (gI (wI σ 20 v1.toNatClampNeg (gI σ 11 v1.toNatClampNeg)) 11 v1.toNatClampNeg) = 1 then f_X11_makePlan_7 n (wI (wI σ 20 v1.toNatClampNeg (gI σ 11 v1.toNatClampNeg)) 22 v1.toNatClampNeg (gI (wI σ 20 v1.toNatClampNeg (gI σ 11 v1.toNatClampNeg)) 11 v1.toNatClampNeg)) (v1 + (1 : Int32)) else none) else none) else none))
def f_X11_makePlan_0 (σ : Mem) : Option (Mem) :=
  f_X11_makePlan_7 FU (wI σ 23 0 (0 : Int32)) (0 : Int32)
def f_X11_makePlan (σ : Mem) : Option (Mem) :=
  f_X11_makePlan_0 σ
abbrev rm_X11_pin : Room := { frames := 1, cells := 0, slots := 0, locals := 23 }
def f_X11_pin_0 (σ : Mem) (a1 : Int32) (a2 : Int32) : Option (Mem × Int32) :=
  ((f_X11_isPlace a1).bind fun q1 => (if q1 = 0 then some (σ, (-2 : Int32)) else ((f_X11_isPlace a2).bind fun q3 => (if q3 = 0 then some (σ, (-2 : Int32)) else ((f_X11_pinAt σ a1 a2).bind fun q5 => (if q5 = (-1 : Int32) then (if (gI σ 0 0) = (6 : Int32) then some (σ, (-4 : Int32)) else (if inB (gI σ 0 0) 6 = true then (if inB (gI (wI σ 2 ((gI σ 0 0).toNatClampNeg) a1) 0 0) 6 = true then (if inB (gI (wI (wI σ 2 ((gI σ 0 0).toNatClampNeg) a1) 3 ((gI (wI σ 2 ((gI σ 0 0).toNatClampNeg) a1) 0 0).toNatClampNeg) a2) 0 0) 6 = true then (if inB (gI (wI (wI (wI σ 2 ((gI σ 0 0).toNatClampNeg) a1) 3 ((gI (wI σ 2 ((gI σ 0 0).toNatClampNeg) a1) 0 0).toNatClampNeg) a2) 4 ((gI (wI (wI σ 2 ((gI σ 0 0).toNatClampNeg) a1) 3 ((gI (wI σ 2 ((gI σ 0 0).toNatClampNeg) a1) 0 0).toNatClampNeg) a2) 0 0).toNatClampNeg) (0 : Int32)) 0 0) 6 = true then (if inB (gI (wI (wI (wI (wI σ 2 ((gI σ 0 0).toNatClampNeg) a1) 3 ((gI (wI σ 2 ((gI σ 0 0).toNatClampNeg) a1) 0 0).toNatClampNeg) a2) 4 ((gI (wI (wI σ 2 ((gI σ 0 0).toNatClampNeg) a1) 3 ((gI (wI σ 2 ((gI σ 0 0).toNatClampNeg) a1) 0 0).toNatClampNeg) a2) 0 0).toNatClampNeg) (0 : Int32)) 5 ((gI (wI (wI (wI σ 2 ((gI σ 0 0).toNatClampNeg) a1) 3 ((gI (wI σ 2 ((gI σ 0 0).toNatClampNeg) a1) 0 0).toNatClampNeg) a2) 4 ((gI (wI (wI σ 2 ((gI σ 0 0).toNatClampNeg) a1) 3 ((gI (wI σ 2 ((gI σ 0 0).toNatClampNeg) a1) 0 0).toNatClampNeg) a2) 0 0).toNatClampNeg) (0 : Int32)) 0 0).toNatClampNeg) (0 : Int32)) 0 0) 6 = true then some (wI (wI (wI (wI (wI (wI σ 2 ((gI σ 0 0).toNatClampNeg) a1) 3 ((gI (wI σ 2 ((gI σ 0 0).toNatClampNeg) a1) 0 0).toNatClampNeg) a2) 4 ((gI (wI (wI σ 2 ((gI σ 0 0).toNatClampNeg) a1) 3 ((gI (wI σ 2 ((gI σ 0 0).toNatClampNeg) a1) 0 0).toNatClampNeg) a2) 0 0).toNatClampNeg) (0 : Int32)) 5 ((gI (wI (wI (wI σ 2 ((gI σ 0 0).toNatClampNeg) a1) 3 ((gI (wI σ 2 ((gI σ 0 0).toNatClampNeg) a1) 0 0).toNatClampNeg) a2) 4 ((gI (wI (wI σ 2 ((gI σ 0 0).toNatClampNeg) a1) 3 ((gI (wI σ 2 ((gI σ 0 0).toNatClampNeg) a1) 0 0).toNatClampNeg) a2) 0 0).toNatClampNeg) (0 : Int32)) 0 0).toNatClampNeg) (0 : Int32)) 6 ((gI (wI (wI (wI (wI σ 2 ((gI σ 0 0).toNatClampNeg) a1) 3 ((gI (wI σ 2 ((gI σ 0 0).toNatClampNeg) a1) 0 0).toNatClampNeg) a2) 4 ((gI (wI (wI σ 2 ((gI σ 0 0).toNatClampNeg) a1) 3 ((gI (wI σ 2 ((gI σ 0 0).toNatClampNeg) a1) 0 0).toNatClampNeg) a2) 0 0).toNatClampNeg) (0 : Int32)) 5 ((gI (wI (wI (wI σ 2 ((gI σ 0 0).toNatClampNeg) a1) 3 ((gI (wI σ 2 ((gI σ 0 0).toNatClampNeg) a1) 0 0).toNatClampNeg) a2) 4 ((gI (wI (wI σ 2 ((gI σ 0 0).toNatClampNeg) a1) 3 ((gI (wI σ 2 ((gI σ 0 0).toNatClampNeg) a1) 0 0).toNatClampNeg) a2) 0 0).toNatClampNeg) (0 : Int32)) 0 0).toNatClampNeg) (0 : Int32)) 0 0).toNatClampNeg) (0 : Int32)) 0 0 ((gI (wI (wI (wI (wI (wI σ 2 ((gI σ 0 0).toNatClampNeg) a1) 3 ((gI (wI σ 2 ((gI σ 0 0).toNatClampNeg) a1) 0 0).toNatClampNeg) a2) 4 ((gI (wI (wI σ 2 ((gI σ 0 0).toNatClampNeg) a1) 3 ((gI (wI σ 2 ((gI σ 0 0).toNatClampNeg) a1) 0 0).toNatClampNeg) a2) 0 0).toNatClampNeg) (0 : Int32)) 5 ((gI (wI (wI (wI σ 2 ((gI σ 0 0).toNatClampNeg) a1) 3 ((gI (wI σ 2 ((gI σ 0 0).toNatClampNeg) a1) 0 0).toNatClampNeg) a2) 4 ((gI (wI (wI σ 2 ((gI σ 0 0).toNatClampNeg) a1) 3 ((gI (wI σ 2 ((gI σ 0 0).toNatClampNeg) a1) 0 0).toNatClampNeg) a2) 0 0).toNatClampNeg) (0 : Int32)) 0 0).toNatClampNeg) (0 : Int32)) 6 ((gI (wI (wI (wI (wI σ 2 ((gI σ 0 0).toNatClampNeg) a1) 3 ((gI (wI σ 2 ((gI σ 0 0).toNatClampNeg) a1) 0 0).toNatClampNeg) a2) 4 ((gI (wI (wI σ 2 ((gI σ 0 0).toNatClampNeg) a1) 3 ((gI (wI σ 2 ((gI σ 0 0).toNatClampNeg) a1) 0 0).toNatClampNeg) a2) 0 0).toNatClampNeg) (0 : Int32)) 5 ((gI (wI (wI (wI σ 2 ((gI σ 0 0).toNatClampNeg) a1) 3 ((gI (wI σ 2 ((gI σ 0 0).toNatClampNeg) a1) 0 0).toNatClampNeg) a2) 4 ((gI (wI (wI σ 2 ((gI σ 0 0).toNatClampNeg) a1) 3 ((gI (wI σ 2 ((gI σ 0 0).toNatClampNeg) a1) 0 0).toNatClampNeg) a2) 0 0).toNatClampNeg) (0 : Int32)) 0 0).toNatClampNeg) (0 : Int32)) 0 0).toNatClampNeg) (0 : Int32)) 0 0) + (1 : Int32)), gI (wI (wI (wI (wI (wI σ 2 ((gI σ 0 0).toNatClampNeg) a1) 3 ((gI (wI σ 2 ((gI σ 0 0).toNatClampNeg) a1) 0 0).toNatClampNeg) a2) 4 ((gI (wI (wI σ 2 ((gI σ 0 0).toNatClampNeg) a1) 3 ((gI (wI σ 2 ((gI σ 0 0).toNatClampNeg) a1) 0 0).toNatClampNeg) a2) 0 0).toNatClampNeg) (0 : Int32)) 5 ((gI (wI (wI (wI σ 2 ((gI σ 0 0).toNatClampNeg) a1) 3 ((gI (wI σ 2 ((gI σ 0 0).toNatClampNeg) a1) 0 0).toNatClampNeg) a2) 4 ((gI (wI (wI σ 2 ((gI σ 0 0).toNatClampNeg) a1) 3 ((gI (wI σ 2 ((gI σ 0 0).toNatClampNeg) a1) 0 0).toNatClampNeg) a2) 0 0).toNatClampNeg) (0 : Int32)) 0 0).toNatClampNeg) (0 : Int32)) 6 ((gI (wI (wI (wI (wI σ 2 ((gI σ 0 0).toNatClampNeg) a1) 3 ((gI (wI σ 2 ((gI σ 0 0).toNatClampNeg) a1) 0 0).toNatClampNeg) a2) 4 ((gI (wI (wI σ 2 ((gI σ 0 0).toNatClampNeg) a1) 3 ((gI (wI σ 2 ((gI σ 0 0).toNatClampNeg) a1) 0 0).toNatClampNeg) a2) 0 0).toNatClampNeg) (0 : Int32)) 5 ((gI (wI (wI (wI σ 2 ((gI σ 0 0).toNatClampNeg) a1) 3 ((gI (wI σ 2 ((gI σ 0 0).toNatClampNeg) a1) 0 0).toNatClampNeg) a2) 4 ((gI (wI (wI σ 2 ((gI σ 0 0).toNatClampNeg) a1) 3 ((gI (wI σ 2 ((gI σ 0 0).toNatClampNeg) a1) 0 0).toNatClampNeg) a2) 0 0).toNatClampNeg) (0 : Int32)) 0 0).toNatClampNeg) (0 : Int32)) 0 0).toNatClampNeg) (0 : Int32)) 0 0) else none) else none) else none) else none) else none)) else some (σ, (-3 : Int32))))))))
def f_X11_pin (σ : Mem) (a1 : Int32) (a2 : Int32) : Option (Mem × Int32) :=
  f_X11_pin_0 σ a1 a2
abbrev rm_X11_move : Room := { frames := 1, cells := 0, slots := 0, locals := 23 }
def f_X11_move_48 (σ : Mem) (v1 : Int32) (v2 : Int32) (v3 : Int32) : Option (Mem × Int32) :=
  (if inB v1 6 = true then some (wI (wI σ 2 v1.toNatClampNeg v2) 3 v1.toNatClampNeg v3, (1 : Int32)) else none)
def f_X11_move_0 (σ : Mem) (a1 : Int32) (a2 : Int32) (a3 : Int32) : Option (Mem × Int32) :=
  ((f_X11_isPin σ a1).bind fun q1 => (if q1 = 0 then some (σ, (-2 : Int32)) else ((f_X11_isPlace a2).bind fun q3 => (if q3 = 0 then some (σ, (-2 : Int32)) else ((f_X11_isPlace a3).bind fun q5 => (if q5 = 0 then some (σ, (-2 : Int32)) else ((f_X11_pinAt σ a2 a3).bind fun q7 => (if q7 = (-1 : Int32) then f_X11_move_48 σ a1 a2 a3 else (if q7 = a1 then f_X11_move_48 σ a1 a2 a3 else some (σ, (-3 : Int32)))))))))))
def f_X11_move (σ : Mem) (a1 : Int32) (a2 : Int32) (a3 : Int32) : Option (Mem × Int32) :=
  f_X11_move_0 σ a1 a2 a3
abbrev rm_X11_hold : Room := { frames := 1, cells := 0, slots := 0, locals := 21 }
def f_X11_hold_26 (σ : Mem) (v1 : Int32) (v2 : Int32) (s0 : Int32) : Option (Mem × Int32) :=
  (if inB v1 6 = true then (if v2 = 0 ∨ v2 = 1 then (if v2 = 0 then some (wI σ 6 v1.toNatClampNeg v2, s0) else some (wI (wI (wI σ 6 v1.toNatClampNeg v2) 4 v1.toNatClampNeg (0 : Int32)) 5 v1.toNatClampNeg (0 : Int32), s0)) else none) else none)
def f_X11_hold_0 (σ : Mem) (a1 : Int32) (a2 : Int32) : Option (Mem × Int32) :=
  ((f_X11_isPin σ a1).bind fun q1 => (if q1 = 0 then some (σ, (-2 : Int32)) else (if inB a1 6 = true then (if (gI σ 6 a1.toNatClampNeg) = a2 then f_X11_hold_26 σ a1 a2 (0 : Int32) else f_X11_hold_26 σ a1 a2 (1 : Int32)) else none)))
def f_X11_hold (σ : Mem) (a1 : Int32) (a2 : Int32) : Option (Mem × Int32) :=
  f_X11_hold_0 σ a1 a2
abbrev rm_X11_rod : Room := { frames := 1, cells := 0, slots := 0, locals := 21 }
def f_X11_rod_199 (σ : Mem) (s0 : Int32) (s1 : Int32) : Option (Mem × Int32) :=
  (if inB s1 15 = true then (if s0 = 0 ∨ s0 = 1 then some (wI (wI σ 11 s1.toNatClampNeg s0) 1 0 ((gI (wI σ 11 s1.toNatClampNeg s0) 1 0) + (1 : Int32)), gI (wI σ 11 s1.toNatClampNeg s0) 1 0) else none) else none)
def f_X11_rod_97 (k66 : Mem → Int32 → Int32 → Int32 → Int32 → Int32 → Option (Mem × Int32)) (σ : Mem) (v1 : Int32) (v2 : Int32) (v3 : Int32) (v4 : Int32) (v5 : Int32) : Option (Mem × Int32) :=
  (if inB v5 15 = true then (if (gI σ 8 v5.toNatClampNeg) = v3 then (if (gI σ 9 v5.toNatClampNeg) = v2 then some (σ, (-3 : Int32)) else k66 σ v1 v2 v3 v4 (v5 + (1 : Int32))) else k66 σ v1 v2 v3 v4 (v5 + (1 : Int32))) else none)
def f_X11_rod_66 : Nat → Mem → Int32 → Int32 → Int32 → Int32 → Int32 → Option (Mem × Int32)
  | 0, _, _, _, _, _, _ => none
  | n + 1, σ, v1, v2, v3, v4, v5 => (if (gI σ 1 0) ≤ v5 then (if (gI σ 1 0) = (15 : Int32) then some (σ, (-4 : Int32)) else (if inB (gI σ 1 0) 15 = true then (if inB (gI (wI σ 7 ((gI σ 1 0).toNatClampNeg) v1) 1 0) 15 = true then (if inB (gI (wI (wI σ 7 ((gI σ 1 0).toNatClampNeg) v1) 8 ((gI (wI σ 7 ((gI σ 1 0).toNatClampNeg) v1) 1 0).toNatClampNeg) v2) 1 0) 15 = true then (if inB (gI (wI (wI (wI σ 7 ((gI σ 1 0).toNatClampNeg) v1) 8 ((gI (wI σ 7 ((gI σ 1 0).toNatClampNeg) v1) 1 0).toNatClampNeg) v2) 9 ((gI (wI (wI σ 7 ((gI σ 1 0).toNatClampNeg) v1) 8 ((gI (wI σ 7 ((gI σ 1 0).toNatClampNeg) v1) 1 0).toNatClampNeg) v2) 1 0).toNatClampNeg) v3) 1 0) 15 = true then (if (2 : Int32) < v1 then f_X11_rod_199 (wI (wI (wI (wI σ 7 ((gI σ 1 0).toNatClampNeg) v1) 8 ((gI (wI σ 7 ((gI σ 1 0).toNatClampNeg) v1) 1 0).toNatClampNeg) v2) 9 ((gI (wI (wI σ 7 ((gI σ 1 0).toNatClampNeg) v1) 8 ((gI (wI σ 7 ((gI σ 1 0).toNatClampNeg) v1) 1 0).toNatClampNeg) v2) 1 0).toNatClampNeg) v3) 10 ((gI (wI (wI (wI σ 7 ((gI σ 1 0).toNatClampNeg) v1) 8 ((gI (wI σ 7 ((gI σ 1 0).toNatClampNeg) v1) 1 0).toNatClampNeg) v2) 9 ((gI (wI (wI σ 7 ((gI σ 1 0).toNatClampNeg) v1) 8 ((gI (wI σ 7 ((gI σ 1 0).toNatClampNeg) v1) 1 0).toNatClampNeg) v2) 1 0).toNatClampNeg) v3) 1 0).toNatClampNeg) v4) (0 : Int32) (gI (wI (wI (wI (wI σ 7 ((gI σ 1 0).toNatClampNeg) v1) 8 ((gI (wI σ 7 ((gI σ 1 0).toNatClampNeg) v1) 1 0).toNatClampNeg) v2) 9 ((gI (wI (wI σ 7 ((gI σ 1 0).toNatClampNeg) v1) 8 ((gI (wI σ 7 ((gI σ 1 0).toNatClampNeg) v1) 1 0).toNatClampNeg) v2) 1 0).toNatClampNeg) v3) 10 ((gI (wI (wI (wI σ 7 ((gI σ 1 0).toNatClampNeg) v1) 8 ((gI (wI σ 7 ((gI σ 1 0).toNatClampNeg) v1) 1 0).toNatClampNeg) v2) 9 ((gI (wI (wI σ 7 ((gI σ 1 0).toNatClampNeg) v1) 8 ((gI (wI σ 7 ((gI σ 1 0).toNatClampNeg) v1) 1 0).toNatClampNeg) v2) 1 0).toNatClampNeg) v3) 1 0).toNatClampNeg) v4) 1 0) else f_X11_rod_199 (wI (wI (wI (wI σ 7 ((gI σ 1 0).toNatClampNeg) v1) 8 ((gI (wI σ 7 ((gI σ 1 0).toNatClampNeg) v1) 1 0).toNatClampNeg) v2) 9 ((gI (wI (wI σ 7 ((gI σ 1 0).toNatClampNeg) v1) 8 ((gI (wI σ 7 ((gI σ 1 0).toNatClampNeg) v1) 1 0).toNatClampNeg) v2) 1 0).toNatClampNeg) v3) 10 ((gI (wI (wI (wI σ 7 ((gI σ 1 0).toNatClampNeg) v1) 8 ((gI (wI σ 7 ((gI σ 1 0).toNatClampNeg) v1) 1 0).toNatClampNeg) v2) 9 ((gI (wI (wI σ 7 ((gI σ 1 0).toNatClampNeg) v1) 8 ((gI (wI σ 7 ((gI σ 1 0).toNatClampNeg) v1) 1 0).toNatClampNeg) v2) 1 0).toNatClampNeg) v3) 1 0).toNatClampNeg) v4) (1 : Int32) (gI (wI (wI (wI (wI σ 7 ((gI σ 1 0).toNatClampNeg) v1) 8 ((gI (wI σ 7 ((gI σ 1 0).toNatClampNeg) v1) 1 0).toNatClampNeg) v2) 9 ((gI (wI (wI σ 7 ((gI σ 1 0).toNatClampNeg) v1) 8 ((gI (wI σ 7 ((gI σ 1 0).toNatClampNeg) v1) 1 0).toNatClampNeg) v2) 1 0).toNatClampNeg) v3) 10 ((gI (wI (wI (wI σ 7 ((gI σ 1 0).toNatClampNeg) v1) 8 ((gI (wI σ 7 ((gI σ 1 0).toNatClampNeg) v1) 1 0).toNatClampNeg) v2) 9 ((gI (wI (wI σ 7 ((gI σ 1 0).toNatClampNeg) v1) 8 ((gI (wI σ 7 ((gI σ 1 0).toNatClampNeg) v1) 1 0).toNatClampNeg) v2) 1 0).toNatClampNeg) v3) 1 0).toNatClampNeg) v4) 1 0)) else none) else none) else none) else none)) else (if inB v5 15 = true then (if (gI σ 8 v5.toNatClampNeg) = v2 then (if (gI σ 9 v5.toNatClampNeg) = v3 then some (σ, (-3 : Int32)) else f_X11_rod_97 (f_X11_rod_66 n) σ v1 v2 v3 v4 v5) else f_X11_rod_97 (f_X11_rod_66 n) σ v1 v2 v3 v4 v5) else none))
def f_X11_rod_0 (σ : Mem) (a1 : Int32) (a2 : Int32) (a3 : Int32) (a4 : Int32) : Option (Mem × Int32) :=
  (if a1 < 0 then some (σ, (-2 : Int32)) else (if (4 : Int32) < a1 then some (σ, (-2 : Int32)) else ((f_X11_isPin σ a2).bind fun q3 => (if q3 = 0 then some (σ, (-2 : Int32)) else ((f_X11_isPin σ a3).bind fun q5 => (if q5 = 0 then some (σ, (-2 : Int32)) else (if a2 = a3 then some (σ, (-2 : Int32)) else (if a1 = (3 : Int32) then (if a4 < (1 : Int32) then some (σ, (-2 : Int32)) else (if a4 ≤ (1000 : Int32) then f_X11_rod_66 FU σ a1 a2 a3 a4 (0 : Int32) else some (σ, (-2 : Int32)))) else (if a4 = 0 then f_X11_rod_66 FU σ a1 a2 a3 a4 (0 : Int32) else some (σ, (-2 : Int32)))))))))))
def f_X11_rod (σ : Mem) (a1 : Int32) (a2 : Int32) (a3 : Int32) (a4 : Int32) : Option (Mem × Int32) :=
  f_X11_rod_0 σ a1 a2 a3 a4
abbrev rm_X11_put : Room := { frames := 1, cells := 0, slots := 0, locals := 21 }
def f_X11_put_0 (σ : Mem) (a1 : Int32) (a2 : Int32) : Option (Mem × Int32) :=
  ((f_X11_isRod σ a1).bind fun q1 => (if q1 = 0 then some (σ, (-2 : Int32)) else (if inB a1 15 = true then (if (3 : Int32) ≤ (gI σ 7 a1.toNatClampNeg) then (if (gI σ 11 a1.toNatClampNeg) = a2 then (if a2 = 0 ∨ a2 = 1 then some (wI σ 11 a1.toNatClampNeg a2, (0 : Int32)) else none) else (if a2 = 0 ∨ a2 = 1 then some (wI σ 11 a1.toNatClampNeg a2, (1 : Int32)) else none)) else some (σ, (-2 : Int32))) else none)))
def f_X11_put (σ : Mem) (a1 : Int32) (a2 : Int32) : Option (Mem × Int32) :=
  f_X11_put_0 σ a1 a2
abbrev rm_X11_count : Room := { frames := 5, cells := 0, slots := 0, locals := 135 }
def f_X11_count_129 : Nat → Mem → Int32 → Int32 → Option (Mem × Int32)
  | 0, _, _, _ => none
  | n + 1, σ, v2, v3 => (if (gI σ 1 0) ≤ v3 then some (σ, v2) else ((f_X11_isNeeded σ v3).bind fun q2 => (if q2.2 = 0 then f_X11_count_129 n q2.1 v2 (v3 + (1 : Int32)) else f_X11_count_129 n q2.1 (v2 + (1 : Int32)) (v3 + (1 : Int32)))))
def f_X11_count_0 (σ : Mem) (a1 : Int32) : Option (Mem × Int32) :=
  (if a1.toInt < 0 ∨ 9 < a1.toInt then some (σ, (-2 : Int32)) else (if a1 = (0 : Int32) then some (σ, gI σ 0 0) else (if a1 = (1 : Int32) then ((f_X11_freePins σ).bind fun q4 => some (σ, q4)) else (if a1 = (2 : Int32) then some (σ, gI σ 1 0) else (if a1 = (3 : Int32) then ((f_X11_inCount σ).bind fun q7 => some (σ, q7)) else (if a1 = (4 : Int32) then ((f_X11_motions σ).bind fun q9 => some (q9.1, q9.2)) else (if a1 = (5 : Int32) then ((f_X11_stresses σ).bind fun q11 => some (q11.1, q11.2)) else (if a1 = (6 : Int32) then ((f_X11_freePins σ).bind fun q13 => ((f_X11_motions σ).bind fun q14 => some (q14.1, ((2 : Int32) * q13) - q14.2))) else (if a1 = (7 : Int32) then ((f_X11_findBodies σ).bind fun q16 => some (q16, gI q16 18 0)) else (if a1 = (8 : Int32) then ((f_X11_inCount σ).bind fun q18 => ((f_X11_even σ (((1 : Int32) <<< ((gI σ 0 0) &&& 31)) - (1 : Int32))).bind fun q19 => some (q19.1, q18 - q19.2))) else (if a1 = (9 : Int32) then f_X11_count_129 FU σ (0 : Int32) (0 : Int32) else none)))))))))))
def f_X11_count (σ : Mem) (a1 : Int32) : Option (Mem × Int32) :=
  f_X11_count_0 σ a1
abbrev rm_X11_pinTold : Room := { frames := 1, cells := 0, slots := 0, locals := 21 }
def f_X11_pinTold_86 (σ : Mem) : Nat → Int32 → Int32 → Int32 → Option (Int32)
  | 0, _, _, _ => none
  | n + 1, v1, v3, v4 => (if (gI σ 1 0) ≤ v4 then some v3 else (if inB v4 15 = true then (if (gI σ 11 v4.toNatClampNeg) = 0 then f_X11_pinTold_86 σ n v1 v3 (v4 + (1 : Int32)) else (if (gI σ 8 v4.toNatClampNeg) = v1 then f_X11_pinTold_86 σ n v1 (v3 + (1 : Int32)) (v4 + (1 : Int32)) else (if (gI σ 9 v4.toNatClampNeg) = v1 then f_X11_pinTold_86 σ n v1 (v3 + (1 : Int32)) (v4 + (1 : Int32)) else f_X11_pinTold_86 σ n v1 v3 (v4 + (1 : Int32))))) else none))
def f_X11_pinTold_0 (σ : Mem) (a1 : Int32) (a2 : Int32) : Option (Int32) :=
  ((f_X11_isPin σ a1).bind fun q1 => (if q1 = 0 then some (-2 : Int32) else (if a2.toInt < 0 ∨ 5 < a2.toInt then some (-2 : Int32) else (if a2 = (0 : Int32) then (if inB a1 6 = true then some (gI σ 2 a1.toNatClampNeg) else none) else (if a2 = (1 : Int32) then (if inB a1 6 = true then some (gI σ 3 a1.toNatClampNeg) else none) else (if a2 = (2 : Int32) then (if inB a1 6 = true then (if (gI σ 6 a1.toNatClampNeg) = 0 then some (0 : Int32) else some (1 : Int32)) else none) else (if a2 = (3 : Int32) then f_X11_pinTold_86 σ FU a1 (0 : Int32) (0 : Int32) else (if a2 = (4 : Int32) then (if inB a1 6 = true then some (gI σ 4 a1.toNatClampNeg) else none) else (if a2 = (5 : Int32) then (if inB a1 6 = true then some (gI σ 5 a1.toNatClampNeg) else none) else none)))))))))
def f_X11_pinTold (σ : Mem) (a1 : Int32) (a2 : Int32) : Option (Int32) :=
  f_X11_pinTold_0 σ a1 a2
abbrev rm_X11_rodTold : Room := { frames := 5, cells := 0, slots := 0, locals := 135 }
def f_X11_rodTold_119 : Nat → Mem → Int32 → Int32 → Option (Mem × Int32)
  | 0, _, _, _ => none
  | n + 1, σ, v1, v3 => (if (gI σ 18 0) ≤ v3 then some (σ, (-1 : Int32)) else (if inB v3 64 = true then ((f_X11_isBetween σ v1 (gI σ 19 v3.toNatClampNeg)).bind fun q3 => (if q3 = 0 then f_X11_rodTold_119 n σ v1 (v3 + (1 : Int32)) else some (σ, v3))) else none))
def f_X11_rodTold_0 (σ : Mem) (a1 : Int32) (a2 : Int32) : Option (Mem × Int32) :=
  ((f_X11_isRod σ a1).bind fun q1 => (if q1 = 0 then some (σ, (-2 : Int32)) else (if a2.toInt < 0 ∨ 6 < a2.toInt then some (σ, (-2 : Int32)) else (if a2 = (0 : Int32) then (if inB a1 15 = true then some (σ, gI σ 7 a1.toNatClampNeg) else none) else (if a2 = (1 : Int32) then (if inB a1 15 = true then some (σ, gI σ 8 a1.toNatClampNeg) else none) else (if a2 = (2 : Int32) then (if inB a1 15 = true then some (σ, gI σ 9 a1.toNatClampNeg) else none) else (if a2 = (3 : Int32) then (if inB a1 15 = true then some (σ, gI σ 10 a1.toNatClampNeg) else none) else (if a2 = (4 : Int32) then (if inB a1 15 = true then (if (gI σ 11 a1.toNatClampNeg) = 0 then some (σ, (0 : Int32)) else some (σ, (1 : Int32))) else none) else (if a2 = (5 : Int32) then ((f_X11_isNeeded σ a1).bind fun q16 => (if q16.2 = 0 then some (q16.1, (0 : Int32)) else some (q16.1, (1 : Int32)))) else (if a2 = (6 : Int32) then ((f_X11_findBodies σ).bind fun q19 => f_X11_rodTold_119 FU q19 a1 (0 : Int32)) else none))))))))))
def f_X11_rodTold (σ : Mem) (a1 : Int32) (a2 : Int32) : Option (Mem × Int32) :=
  f_X11_rodTold_0 σ a1 a2
abbrev rm_X11_motion : Room := { frames := 5, cells := 0, slots := 0, locals := 128 }
def f_X11_motion_0 (σ : Mem) (a1 : Int32) (a2 : Int32) (a3 : Int32) : Option (Mem × Int64) :=
  ((f_X11_isPin σ a2).bind fun q1 => (if q1 = 0 then some (σ, (-4611686018427387904 : Int64)) else (if a3 < 0 then some (σ, (-4611686018427387904 : Int64)) else (if (1 : Int32) < a3 then some (σ, (-4611686018427387904 : Int64)) else (if a1 < 0 then some (σ, (-4611686018427387904 : Int64)) else ((f_X11_motions σ).bind fun q6 => (if a1 < q6.2 then ((f_X11_freeColumn q6.1 a2).bind fun q8 => (if q8 = (-1 : Int32) then some (q6.1, (0 : Int64)) else ((f_X11_loose q6.1 a1).bind fun q10 => ((f_X11_nulOf q6.1 q10).bind fun q11 => (if inB (q8 + a3) 16 = true then some (q11, gL q11 16 (q8 + a3).toNatClampNeg) else none))))) else some (q6.1, (-4611686018427387904 : Int64)))))))))
def f_X11_motion (σ : Mem) (a1 : Int32) (a2 : Int32) (a3 : Int32) : Option (Mem × Int64) :=
  f_X11_motion_0 σ a1 a2 a3
abbrev rm_X11_stress : Room := { frames := 4, cells := 0, slots := 0, locals := 111 }
def f_X11_stress_0 (σ : Mem) (a1 : Int32) (a2 : Int32) : Option (Mem × Int64) :=
  ((f_X11_isRod σ a2).bind fun q1 => (if q1 = 0 then some (σ, (-4611686018427387904 : Int64)) else (if a1 < 0 then some (σ, (-4611686018427387904 : Int64)) else ((f_X11_stresses σ).bind fun q4 => (if a1 < q4.2 then (if inB a2 15 = true then (if (gI q4.1 11 a2.toNatClampNeg) = 0 then some (q4.1, (0 : Int64)) else ((f_X11_loose q4.1 a1).bind fun q8 => ((f_X11_nulOf q4.1 q8).bind fun q9 => ((f_X11_columnOf q9 a2).bind fun q10 => (if inB q10 16 = true then some (q9, gL q9 16 q10.toNatClampNeg) else none))))) else none) else some (q4.1, (-4611686018427387904 : Int64)))))))
def f_X11_stress (σ : Mem) (a1 : Int32) (a2 : Int32) : Option (Mem × Int64) :=
  f_X11_stress_0 σ a1 a2
abbrev rm_X11_stiff : Room := { frames := 5, cells := 0, slots := 0, locals := 129 }
def f_X11_stiff_0 (σ : Mem) : Option (Mem × Int32) :=
  ((f_X11_isStiff_isIn σ).bind fun q1 => (if q1.2 = 0 then some (q1.1, (0 : Int32)) else some (q1.1, (1 : Int32))))
def f_X11_stiff (σ : Mem) : Option (Mem × Int32) :=
  f_X11_stiff_0 σ
abbrev rm_X11_tight : Room := { frames := 4, cells := 0, slots := 0, locals := 111 }
def f_X11_tight_94 (k25 : Mem → Int32 → Int32 → Int32 → Option (Mem × Int32)) (σ : Mem) (v1 : Int32) (v2 : Int32) (v3 : Int32) (v5 : Int64) : Option (Mem × Int32) :=
  (if v5 < (0 : Int64) then k25 σ v1 v2 (v3 + (1 : Int32)) else k25 σ v1 (0 : Int32) (v3 + (1 : Int32)))
def f_X11_tight_83 (k25 : Mem → Int32 → Int32 → Int32 → Option (Mem × Int32)) (σ : Mem) (v1 : Int32) (v2 : Int32) (v3 : Int32) (s0 : Int64) : Option (Mem × Int32) :=
  (if (0 : Int64) < s0 then f_X11_tight_94 k25 σ v1 v2 v3 s0 else f_X11_tight_94 k25 σ (0 : Int32) v2 v3 s0)
def f_X11_tight_61 (k25 : Mem → Int32 → Int32 → Int32 → Option (Mem × Int32)) (σ : Mem) (v1 : Int32) (v2 : Int32) (v3 : Int32) (v4 : Int32) : Option (Mem × Int32) :=
  (if v4 = (1 : Int32) then (if inB v3 16 = true then f_X11_tight_83 k25 σ v1 v2 v3 (gL σ 16 v3.toNatClampNeg) else none) else (if inB v3 16 = true then f_X11_tight_83 k25 σ v1 v2 v3 (-(gL σ 16 v3.toNatClampNeg)) else none))
def f_X11_tight_25 : Nat → Mem → Int32 → Int32 → Int32 → Option (Mem × Int32)
  | 0, _, _, _, _ => none
  | n + 1, σ, v1, v2, v3 => (if (gI σ 14 0) ≤ v3 then (if v1 = 0 then (if v2 = 0 then some (σ, (0 : Int32)) else some (σ, (1 : Int32))) else some (σ, (1 : Int32))) else (if inB v3 15 = true then (if inB (gI σ 17 v3.toNatClampNeg) 15 = true then (if (gI σ 7 (gI σ 17 v3.toNatClampNeg).toNatClampNeg) = (1 : Int32) then f_X11_tight_61 (f_X11_tight_25 n) σ v1 v2 v3 (gI σ 7 (gI σ 17 v3.toNatClampNeg).toNatClampNeg) else (if (gI σ 7 (gI σ 17 v3.toNatClampNeg).toNatClampNeg) = (2 : Int32) then f_X11_tight_61 (f_X11_tight_25 n) σ v1 v2 v3 (gI σ 7 (gI σ 17 v3.toNatClampNeg).toNatClampNeg) else f_X11_tight_25 n σ v1 v2 (v3 + (1 : Int32)))) else none) else none))
def f_X11_tight_0 (σ : Mem) : Option (Mem × Int32) :=
  ((f_X11_stresses σ).bind fun q1 => (if q1.2 = (1 : Int32) then ((f_X11_loose q1.1 (0 : Int32)).bind fun q3 => ((f_X11_nulOf q1.1 q3).bind fun q4 => f_X11_tight_25 FU q4 (1 : Int32) (1 : Int32) (0 : Int32))) else some (q1.1, (-1 : Int32))))
def f_X11_tight (σ : Mem) : Option (Mem × Int32) :=
  f_X11_tight_0 σ
abbrev rm_X11_load : Room := { frames := 1, cells := 0, slots := 0, locals := 21 }
def f_X11_load_0 (σ : Mem) (a1 : Int32) (a2 : Int32) (a3 : Int32) : Option (Mem × Int32) :=
  ((f_X11_isPin σ a1).bind fun q1 => (if q1 = 0 then some (σ, (-2 : Int32)) else (if a2 < (-20 : Int32) then some (σ, (-2 : Int32)) else (if (20 : Int32) < a2 then some (σ, (-2 : Int32)) else (if a3 < (-20 : Int32) then some (σ, (-2 : Int32)) else (if a3 ≤ (20 : Int32) then (if inB a1 6 = true then (if (gI σ 6 a1.toNatClampNeg) = 0 then some (wI (wI σ 4 a1.toNatClampNeg a2) 5 a1.toNatClampNeg a3, (1 : Int32)) else some (σ, (-3 : Int32))) else none) else some (σ, (-2 : Int32))))))))
def f_X11_load (σ : Mem) (a1 : Int32) (a2 : Int32) (a3 : Int32) : Option (Mem × Int32) :=
  f_X11_load_0 σ a1 a2 a3
abbrev rm_X11_carry : Room := { frames := 4, cells := 0, slots := 0, locals := 111 }
def f_X11_carry_0 (σ : Mem) : Option (Mem × Int32) :=
  ((f_X11_stresses σ).bind fun q1 => ((f_X11_carries q1.1).bind fun q2 => (if q2 = 0 then some (q1.1, (0 : Int32)) else some (q1.1, (1 : Int32)))))
def f_X11_carry (σ : Mem) : Option (Mem × Int32) :=
  f_X11_carry_0 σ
abbrev rm_X11_force : Room := { frames := 4, cells := 0, slots := 0, locals := 111 }
def f_X11_force_134 (σ : Mem) (v2 : Int32) (v4 : Int64) (v6 : Int64) (v8 : Int64) : Option (Mem × Int64) :=
  (if v2 = 0 then (if v8 = 0 then none else some (σ, v4 / v8)) else (if v8 = 0 then none else some (σ, v6 / v8)))
def f_X11_force_55 (σ : Mem) (v2 : Int32) (s0 : Int32) : Option (Mem × Int64) :=
  (if s0 = (-1 : Int32) then some (σ, v2.toInt64) else (if inB s0 16 = true then (if (gI σ 15 s0.toNatClampNeg) = (-1 : Int32) then some (σ, v2.toInt64) else (if inB (((16 : Int32) * (gI σ 15 s0.toNatClampNeg)) + (gI σ 14 0)) 256 = true then (if inB (((16 : Int32) * (gI σ 15 s0.toNatClampNeg)) + s0) 256 = true then ((f_X11_gcd (gL σ 12 (((16 : Int32) * (gI σ 15 s0.toNatClampNeg)) + (gI σ 14 0)).toNatClampNeg) (gL σ 12 (((16 : Int32) * (gI σ 15 s0.toNatClampNeg)) + s0).toNatClampNeg)).bind fun q6 => (if (0 : Int64) ≤ (gL σ 12 (((16 : Int32) * (gI σ 15 s0.toNatClampNeg)) + s0).toNatClampNeg) then f_X11_force_134 σ v2 (gL σ 12 (((16 : Int32) * (gI σ 15 s0.toNatClampNeg)) + (gI σ 14 0)).toNatClampNeg) (gL σ 12 (((16 : Int32) * (gI σ 15 s0.toNatClampNeg)) + s0).toNatClampNeg) q6 else f_X11_force_134 σ v2 (gL σ 12 (((16 : Int32) * (gI σ 15 s0.toNatClampNeg)) + (gI σ 14 0)).toNatClampNeg) (gL σ 12 (((16 : Int32) * (gI σ 15 s0.toNatClampNeg)) + s0).toNatClampNeg) (-q6))) else none) else none)) else none))
def f_X11_force_0 (σ : Mem) (a1 : Int32) (a2 : Int32) : Option (Mem × Int64) :=
  ((f_X11_isRod σ a1).bind fun q1 => (if q1 = 0 then some (σ, (-4611686018427387904 : Int64)) else (if a2 < 0 then some (σ, (-4611686018427387904 : Int64)) else (if a2 ≤ (1 : Int32) then ((f_X11_stresses σ).bind fun q5 => ((f_X11_carries q5.1).bind fun q6 => (if q6 = 0 then some (q5.1, (-4611686018427387904 : Int64)) else (if inB a1 15 = true then (if (gI q5.1 11 a1.toNatClampNeg) = 0 then f_X11_force_55 q5.1 a2 (-1 : Int32) else ((f_X11_columnOf q5.1 a1).bind fun q10 => f_X11_force_55 q5.1 a2 q10)) else none)))) else some (σ, (-4611686018427387904 : Int64))))))
def f_X11_force (σ : Mem) (a1 : Int32) (a2 : Int32) : Option (Mem × Int64) :=
  f_X11_force_0 σ a1 a2
abbrev rm_X11_gives : Room := { frames := 5, cells := 0, slots := 0, locals := 128 }
def f_X11_gives_26 (k7 : Mem → Int32 → Int32 → Option (Mem × Int32)) : Nat → Mem → Int32 → Int32 → Int64 → Int32 → Option (Mem × Int32)
  | 0, _, _, _, _, _ => none
  | n + 1, σ, v1, v2, v3, v5 => (if (gI σ 0 0) ≤ v5 then (if v3 = (0 : Int64) then k7 σ v1 (v2 + (1 : Int32)) else some (σ, v2)) else ((f_X11_freeColumn σ v5).bind fun q3 => (if q3 = (-1 : Int32) then f_X11_gives_26 k7 n σ v1 v2 v3 (v5 + (1 : Int32)) else (if inB q3 16 = true then (if inB v5 6 = true then (if inB (q3 + (1 : Int32)) 16 = true then f_X11_gives_26 k7 n σ v1 v2 (v3 + (((gL σ 16 q3.toNatClampNeg) * ((gI σ 4 v5.toNatClampNeg).toInt64)) + ((gL σ 16 (q3 + (1 : Int32)).toNatClampNeg) * ((gI σ 5 v5.toNatClampNeg).toInt64)))) (v5 + (1 : Int32)) else none) else none) else none))))
def f_X11_gives_7 : Nat → Mem → Int32 → Int32 → Option (Mem × Int32)
  | 0, _, _, _ => none
  | n + 1, σ, v1, v2 => (if v1 ≤ v2 then some (σ, (-1 : Int32)) else ((f_X11_loose σ v2).bind fun q2 => ((f_X11_nulOf σ q2).bind fun q3 => f_X11_gives_26 (f_X11_gives_7 n) FU q3 v1 v2 (0 : Int64) (0 : Int32))))
def f_X11_gives_0 (σ : Mem) : Option (Mem × Int32) :=
  ((f_X11_motions σ).bind fun q1 => f_X11_gives_7 FU q1.1 q1.2 (0 : Int32))
def f_X11_gives (σ : Mem) : Option (Mem × Int32) :=
  f_X11_gives_0 σ
abbrev rm_X11_could : Room := { frames := 3, cells := 0, slots := 0, locals := 70 }
def f_X11_could_0 (σ : Mem) : Option (Mem × Int32) :=
  (if (gI σ 0 0) < (2 : Int32) then some (σ, (0 : Int32)) else ((f_X11_even σ (((1 : Int32) <<< ((gI σ 0 0) &&& 31)) - (1 : Int32))).bind fun q2 => (if q2.2 = (((2 : Int32) * (gI q2.1 0 0)) - (3 : Int32)) then some (q2.1, (1 : Int32)) else some (q2.1, (0 : Int32)))))
def f_X11_could (σ : Mem) : Option (Mem × Int32) :=
  f_X11_could_0 σ
abbrev rm_X11_body : Room := { frames := 4, cells := 0, slots := 0, locals := 94 }
def f_X11_body_24 : Nat → Mem → Int32 → Int32 → Int32 → Int32 → Option (Mem × Int32)
  | 0, _, _, _, _, _ => none
  | n + 1, σ, v1, v2, v3, v4 => (if (gI σ 0 0) ≤ v4 then some (σ, (-1 : Int32)) else (if v2 < 0 then some (σ, (-1 : Int32)) else (if inB v1 64 = true then (if (((gI σ 19 v1.toNatClampNeg) >>> (v4 &&& 31)) &&& (1 : Int32)) = 0 then f_X11_body_24 n σ v1 v2 v3 (v4 + (1 : Int32)) else (if v3 = 0 then some (σ, v4) else f_X11_body_24 n σ v1 v2 (v3 + (-1 : Int32)) (v4 + (1 : Int32)))) else none)))
def f_X11_body_0 (σ : Mem) (a1 : Int32) (a2 : Int32) : Option (Mem × Int32) :=
  ((f_X11_findBodies σ).bind fun q1 => (if a1 < 0 then some (q1, (-2 : Int32)) else (if a1 < (gI q1 18 0) then f_X11_body_24 FU q1 a1 a2 a2 (0 : Int32) else some (q1, (-2 : Int32)))))
def f_X11_body (σ : Mem) (a1 : Int32) (a2 : Int32) : Option (Mem × Int32) :=
  f_X11_body_0 σ a1 a2
abbrev rm_X11_plan : Room := { frames := 5, cells := 0, slots := 0, locals := 131 }
def f_X11_plan_0 (σ : Mem) (a1 : Int32) : Option (Mem × Int32) :=
  ((f_X11_makePlan σ).bind fun q1 => (if a1 < 0 then some (q1, (-1 : Int32)) else (if a1 < (gI q1 23 0) then (if inB a1 15 = true then some (q1, gI q1 24 a1.toNatClampNeg) else none) else some (q1, (-1 : Int32)))))
def f_X11_plan (σ : Mem) (a1 : Int32) : Option (Mem × Int32) :=
  f_X11_plan_0 σ a1
abbrev rm_X11_cheapest : Room := { frames := 5, cells := 0, slots := 0, locals := 131 }
def f_X11_cheapest_8 : Nat → Mem → Int32 → Int32 → Option (Mem × Int32)
  | 0, _, _, _ => none
  | n + 1, σ, v1, v2 => (if (gI σ 23 0) ≤ v2 then ((f_X11_isStiff_taken σ).bind fun q2 => (if q2.2 = 0 then some (q2.1, (-1 : Int32)) else some (q2.1, v1))) else (if inB v2 15 = true then (if inB (gI σ 24 v2.toNatClampNeg) 15 = true then f_X11_cheapest_8 n σ (v1 + (gI σ 10 (gI σ 24 v2.toNatClampNeg).toNatClampNeg)) (v2 + (1 : Int32)) else none) else none))
def f_X11_cheapest_0 (σ : Mem) : Option (Mem × Int32) :=
  ((f_X11_makePlan σ).bind fun q1 => f_X11_cheapest_8 FU q1 (0 : Int32) (0 : Int32))
def f_X11_cheapest (σ : Mem) : Option (Mem × Int32) :=
  f_X11_cheapest_0 σ
abbrev rm_X11_refused : Room := { frames := 0, cells := 0, slots := 0, locals := 0 }
def f_X11_refused_0 (σ : Mem) (a1 : Int32) : Option (Mem × Int32) :=
  some (wI σ 30 0 a1, (-1 : Int32))
def f_X11_refused (σ : Mem) (a1 : Int32) : Option (Mem × Int32) :=
  f_X11_refused_0 σ a1
abbrev rm_X11_done : Room := { frames := 0, cells := 0, slots := 0, locals := 0 }
def f_X11_done_0 (σ : Mem) (a1 : Int32) : Option (Mem × Int32) :=
  some (wI σ 30 0 (0 : Int32), a1)
def f_X11_done (σ : Mem) (a1 : Int32) : Option (Mem × Int32) :=
  f_X11_done_0 σ a1
abbrev rm_X11_tray : Room := { frames := 5, cells := 0, slots := 0, locals := 128 }
def f_X11_tray_334 (σ : Mem) : Option (Mem × Int32) :=
  ((f_X11_done σ (1 : Int32)).bind fun q1 => some (q1.1, q1.2))
def f_X11_tray_266 : Nat → Mem → Int32 → Int32 → Int32 → Int32 → Option (Mem × Int32)
  | 0, _, _, _, _, _ => none
  | n + 1, σ, v1, v2, v4, v5 => (if (gI σ 1 0) ≤ v5 then f_X11_tray_334 σ else (if inB v1 6 = true then (if v2 = (3 : Int32) then (if inB v5 15 = true then (if inB (v4 + (gI σ 26 v1.toNatClampNeg)) 96 = true then f_X11_tray_266 n (wL (wI σ 26 v1.toNatClampNeg ((gI σ 26 v1.toNatClampNeg) + (1 : Int32))) 29 ((v4 + (gI σ 26 v1.toNatClampNeg)).toNatClampNeg) ((gI (wI σ 26 v1.toNatClampNeg ((gI σ 26 v1.toNatClampNeg) + (1 : Int32))) 10 v5.toNatClampNeg).toInt64)) v1 v2 v4 (v5 + (1 : Int32)) else none) else none) else (if inB v5 15 = true then (if (gI (wI σ 26 v1.toNatClampNeg ((gI σ 26 v1.toNatClampNeg) + (1 : Int32))) 11 v5.toNatClampNeg) = 0 then (if inB (v4 + (gI σ 26 v1.toNatClampNeg)) 96 = true then f_X11_tray_266 n (wL (wI σ 26 v1.toNatClampNeg ((gI σ 26 v1.toNatClampNeg) + (1 : Int32))) 29 ((v4 + (gI σ 26 v1.toNatClampNeg)).toNatClampNeg) (0 : Int64)) v1 v2 v4 (v5 + (1 : Int32)) else none) else (if inB (v4 + (gI σ 26 v1.toNatClampNeg)) 96 = true then f_X11_tray_266 n (wL (wI σ 26 v1.toNatClampNeg ((gI σ 26 v1.toNatClampNeg) + (1 : Int32))) 29 ((v4 + (gI σ 26 v1.toNatClampNeg)).toNatClampNeg) (1 : Int64)) v1 v2 v4 (v5 + (1 : Int32)) else none)) else none)) else none))
def f_X11_tray_215 (k163 : Mem → Int32 → Int32 → Int32 → Option (Mem × Int32)) (σ : Mem) (v1 : Int32) (v4 : Int32) (v5 : Int32) (v6 : Int32) (s0 : Int64) (s1 : Int32) : Option (Mem × Int32) :=
  (if inB s1 96 = true then (if inB v1 6 = true then (if v6 = (-1 : Int32) then (if inB (v4 + (gI (wL σ 29 s1.toNatClampNeg s0) 26 v1.toNatClampNeg)) 96 = true then k163 (wL (wI (wL σ 29 s1.toNatClampNeg s0) 26 v1.toNatClampNeg ((gI (wL σ 29 s1.toNatClampNeg s0) 26 v1.toNatClampNeg) + (1 : Int32))) 29 ((v4 + (gI (wL σ 29 s1.toNatClampNeg s0) 26 v1.toNatClampNeg)).toNatClampNeg) (0 : Int64)) v1 v4 (v5 + (1 : Int32)) else none) else (if inB (v6 + (1 : Int32)) 16 = true then (if inB (v4 + (gI (wL σ 29 s1.toNatClampNeg s0) 26 v1.toNatClampNeg)) 96 = true then k163 (wL (wI (wL σ 29 s1.toNatClampNeg s0) 26 v1.toNatClampNeg ((gI (wL σ 29 s1.toNatClampNeg s0) 26 v1.toNatClampNeg) + (1 : Int32))) 29 ((v4 + (gI (wL σ 29 s1.toNatClampNeg s0) 26 v1.toNatClampNeg)).toNatClampNeg) (gL (wI (wL σ 29 s1.toNatClampNeg s0) 26 v1.toNatClampNeg ((gI (wL σ 29 s1.toNatClampNeg s0) 26 v1.toNatClampNeg) + (1 : Int32))) 16 (v6 + (1 : Int32)).toNatClampNeg)) v1 v4 (v5 + (1 : Int32)) else none) else none)) else none) else none)
def f_X11_tray_163 : Nat → Mem → Int32 → Int32 → Int32 → Option (Mem × Int32)
  | 0, _, _, _, _ => none
  | n + 1, σ, v1, v4, v5 => (if (gI σ 0 0) ≤ v5 then f_X11_tray_334 σ else ((f_X11_freeColumn σ v5).bind fun q2 => (if inB v1 6 = true then (if q2 = (-1 : Int32) then f_X11_tray_215 (f_X11_tray_163 n) (wI σ 26 v1.toNatClampNeg ((gI σ 26 v1.toNatClampNeg) + (1 : Int32))) v1 v4 v5 q2 (0 : Int64) (v4 + (gI σ 26 v1.toNatClampNeg)) else (if inB q2 16 = true then f_X11_tray_215 (f_X11_tray_163 n) (wI σ 26 v1.toNatClampNeg ((gI σ 26 v1.toNatClampNeg) + (1 : Int32))) v1 v4 v5 q2 (gL (wI σ 26 v1.toNatClampNeg ((gI σ 26 v1.toNatClampNeg) + (1 : Int32))) 16 q2.toNatClampNeg) (v4 + (gI σ 26 v1.toNatClampNeg)) else none)) else none)))
def f_X11_tray_60 (σ : Mem) (v1 : Int32) (v2 : Int32) (v3 : Int32) : Option (Mem × Int32) :=
  (if inB v1 6 = true then (if v2.toInt < 1 ∨ 4 < v2.toInt then f_X11_tray_334 (wI (wI σ 25 v1.toNatClampNeg v2) 26 v1.toNatClampNeg (0 : Int32)) else (if v2 = (1 : Int32) then (if inB v3 15 = true then f_X11_tray_334 (wI (wI (wI (wI (wI σ 25 v1.toNatClampNeg v2) 26 v1.toNatClampNeg (0 : Int32)) 27 v1.toNatClampNeg (gI (wI (wI σ 25 v1.toNatClampNeg v2) 26 v1.toNatClampNeg (0 : Int32)) 7 v3.toNatClampNeg)) 28 v1.toNatClampNeg (gI (wI (wI (wI σ 25 v1.toNatClampNeg v2) 26 v1.toNatClampNeg (0 : Int32)) 27 v1.toNatClampNeg (gI (wI (wI σ 25 v1.toNatClampNeg v2) 26 v1.toNatClampNeg (0 : Int32)) 7 v3.toNatClampNeg)) 8 v3.toNatClampNeg)) 26 v1.toNatClampNeg (gI (wI (wI (wI (wI σ 25 v1.toNatClampNeg v2) 26 v1.toNatClampNeg (0 : Int32)) 27 v1.toNatClampNeg (gI (wI (wI σ 25 v1.toNatClampNeg v2) 26 v1.toNatClampNeg (0 : Int32)) 7 v3.toNatClampNeg)) 28 v1.toNatClampNeg (gI (wI (wI (wI σ 25 v1.toNatClampNeg v2) 26 v1.toNatClampNeg (0 : Int32)) 27 v1.toNatClampNeg (gI (wI (wI σ 25 v1.toNatClampNeg v2) 26 v1.toNatClampNeg (0 : Int32)) 7 v3.toNatClampNeg)) 8 v3.toNatClampNeg)) 10 v3.toNatClampNeg)) else none) else (if v2 = (2 : Int32) then ((f_X11_loose (wI (wI σ 25 v1.toNatClampNeg v2) 26 v1.toNatClampNeg (0 : Int32)) v3).bind fun q6 => ((f_X11_nulOf (wI (wI σ 25 v1.toNatClampNeg v2) 26 v1.toNatClampNeg (0 : Int32)) q6).bind fun q7 => f_X11_tray_163 FU q7 v1 ((16 : Int32) * v1) (0 : Int32))) else (if v2 = (3 : Int32) then f_X11_tray_266 FU (wI (wI σ 25 v1.toNatClampNeg v2) 26 v1.toNatClampNeg (0 : Int32)) v1 v2 ((16 : Int32) * v1) (0 : Int32) else (if v2 = (4 : Int32) then f_X11_tray_266 FU (wI (wI σ 25 v1.toNatClampNeg v2) 26 v1.toNatClampNeg (0 : Int32)) v1 v2 ((16 : Int32) * v1) (0 : Int32) else none))))) else none)
def f_X11_tray_54 (σ : Mem) : Option (Mem × Int32) :=
  ((f_X11_refused σ (1 : Int32)).bind fun q1 => some (q1.1, q1.2))
def f_X11_tray_37 (σ : Mem) (v1 : Int32) (v2 : Int32) (v3 : Int32) : Option (Mem × Int32) :=
  (if v2 = (2 : Int32) then (if v3 < 0 then f_X11_tray_54 σ else ((f_X11_motions σ).bind fun q3 => (if v3 < q3.2 then f_X11_tray_60 q3.1 v1 v2 v3 else f_X11_tray_54 q3.1))) else f_X11_tray_60 σ v1 v2 v3)
def f_X11_tray_18 (σ : Mem) : Option (Mem × Int32) :=
  ((f_X11_refused σ (1 : Int32)).bind fun q1 => some (q1.1, q1.2))
def f_X11_tray_0 (σ : Mem) (a1 : Int32) (a2 : Int32) (a3 : Int32) : Option (Mem × Int32) :=
  (if a1 < 0 then f_X11_tray_18 σ else (if (5 : Int32) < a1 then f_X11_tray_18 σ else (if a2 < 0 then f_X11_tray_18 σ else (if a2 ≤ (4 : Int32) then (if a2 = (1 : Int32) then ((f_X11_isRod σ a3).bind fun q6 => (if q6 = 0 then f_X11_tray_54 σ else f_X11_tray_37 σ a1 a2 a3)) else f_X11_tray_37 σ a1 a2 a3) else f_X11_tray_18 σ))))
def f_X11_tray (σ : Mem) (a1 : Int32) (a2 : Int32) (a3 : Int32) : Option (Mem × Int32) :=
  f_X11_tray_0 σ a1 a2 a3
abbrev rm_X11_forge : Room := { frames := 1, cells := 0, slots := 0, locals := 21 }
def f_X11_forge_443 (σ : Mem) : Option (Mem × Int32) :=
  ((f_X11_refused σ (14 : Int32)).bind fun q1 => some (q1.1, q1.2))
def f_X11_forge_364 : Nat → Mem → Int32 → Int32 → Int32 → Int32 → Option (Mem × Int32)
  | 0, _, _, _, _, _ => none
  | n + 1, σ, v3, v5, v6, v7 => (if v3 ≤ v7 then ((f_X11_done σ v6).bind fun q2 => some (q2.1, q2.2)) else (if inB ((v5 + (1 : Int32)) + v7) 96 = true then f_X11_forge_364 n σ v3 v5 (v6 + ((gL σ 29 ((v5 + (1 : Int32)) + v7).toNatClampNeg).toInt32)) (v7 + (1 : Int32)) else none))
def f_X11_forge_351 (σ : Mem) : Option (Mem × Int32) :=
  ((f_X11_refused σ (12 : Int32)).bind fun q1 => some (q1.1, q1.2))
def f_X11_forge_284 (σ : Mem) : Option (Mem × Int32) :=
  ((f_X11_refused σ (12 : Int32)).bind fun q1 => some (q1.1, q1.2))
def f_X11_forge_270 (σ : Mem) (v1 : Int32) (v3 : Int32) (v5 : Int32) : Option (Mem × Int32) :=
  (if v3 < 0 then f_X11_forge_284 σ else (if inB v1 6 = true then (if v3 < (gI σ 26 v1.toNatClampNeg) then (if inB (v5 + v3) 96 = true then ((f_X11_done σ ((gL σ 29 (v5 + v3).toNatClampNeg).toInt32)).bind fun q5 => some (q5.1, q5.2)) else none) else f_X11_forge_284 σ) else none))
def f_X11_forge_227 : Nat → Mem → Int32 → Int32 → Int32 → Int32 → Int32 → Option (Mem × Int32)
  | 0, _, _, _, _, _, _ => none
  | n + 1, σ, v1, v3, v5, v6, v7 => (if inB v1 6 = true then (if (gI σ 26 v1.toNatClampNeg) ≤ v7 then ((f_X11_done σ v6).bind fun q3 => some (q3.1, q3.2)) else (if inB (v5 + v7) 96 = true then (if (gL σ 29 (v5 + v7).toNatClampNeg) = v3.toInt64 then f_X11_forge_227 n σ v1 v3 v5 (v6 + (1 : Int32)) (v7 + (1 : Int32)) else f_X11_forge_227 n σ v1 v3 v5 v6 (v7 + (1 : Int32))) else none)) else none)
def f_X11_forge_194 (σ : Mem) (v1 : Int32) (s0 : Int32) : Option (Mem × Int32) :=
  (if s0 = 0 then ((f_X11_refused σ (11 : Int32)).bind fun q2 => some (q2.1, q2.2)) else (if inB v1 6 = true then ((f_X11_done σ (gI σ 28 v1.toNatClampNeg)).bind fun q4 => some (q4.1, q4.2)) else none))
def f_X11_forge_193 (σ : Mem) (v1 : Int32) : Option (Mem × Int32) :=
  f_X11_forge_194 σ v1 (0 : Int32)
def f_X11_forge_189 (σ : Mem) (v1 : Int32) : Option (Mem × Int32) :=
  f_X11_forge_194 σ v1 (1 : Int32)
def f_X11_forge_157 (σ : Mem) (v1 : Int32) (v6 : Int32) : Option (Mem × Int32) :=
  (if v6 = 0 then f_X11_forge_189 σ v1 else (if inB v1 6 = true then (if (gI σ 27 v1.toNatClampNeg) = v6 then f_X11_forge_189 σ v1 else (if v6 = (3 : Int32) then (if (gI σ 27 v1.toNatClampNeg) = (4 : Int32) then f_X11_forge_189 σ v1 else f_X11_forge_193 σ v1) else f_X11_forge_193 σ v1)) else none))
def f_X11_forge_97 (σ : Mem) (v1 : Int32) (v2 : Int32) (v3 : Int32) (v4 : Int32) (v5 : Int32) : Option (Mem × Int32) :=
  (if v2.toInt < 0 ∨ 7 < v2.toInt then ((f_X11_refused σ (10 : Int32)).bind fun q2 => some (q2.1, q2.2)) else (if v2 = (0 : Int32) then (if 0 ≤ (v3 - v3 / (5 : Int32) * (5 : Int32)) then f_X11_forge_157 σ v1 (v3 - v3 / (5 : Int32) * (5 : Int32)) else f_X11_forge_157 σ v1 ((v3 - v3 / (5 : Int32) * (5 : Int32)) + (5 : Int32))) else (if v2 = (1 : Int32) then f_X11_forge_227 FU σ v1 v3 v5 (0 : Int32) (0 : Int32) else (if v2 = (2 : Int32) then f_X11_forge_270 σ v1 v3 v5 else (if v2 = (3 : Int32) then f_X11_forge_270 σ v1 v3 v5 else (if v2 = (4 : Int32) then (if 0 ≤ v3 then ((f_X11_done σ v3).bind fun q10 => some (q10.1, q10.2)) else ((f_X11_refused σ (13 : Int32)).bind fun q11 => some (q11.1, q11.2))) else (if v2 = (5 : Int32) then (if v3 < 0 then f_X11_forge_351 σ else (if inB v1 6 = true then (if (gI σ 26 v1.toNatClampNeg) < ((1 : Int32) + v3) then f_X11_forge_351 σ else (if (v3 + v3) ≤ (9 : Int32) then f_X11_forge_364 FU σ v3 v5 (0 : Int32) (0 : Int32) else f_X11_forge_351 σ)) else none)) else (if v2 = (6 : Int32) then (if v4 = 0 then ((f_X11_done σ (0 : Int32)).bind fun q23 => some (q23.1, q23.2)) else (if v4 = (1 : Int32) then (if inB v1 6 = true then (if (gI σ 27 v1.toNatClampNeg) < (3 : Int32) then f_X11_forge_443 σ else ((f_X11_done σ (gI σ 26 v1.toNatClampNeg)).bind fun q22 => some (q22.1, q22.2))) else none) else f_X11_forge_443 σ)) else (if v2 = (7 : Int32) then (if v3 = 0 then ((f_X11_refused σ (15 : Int32)).bind fun q28 => some (q28.1, q28.2)) else (if v3 = 0 then none else ((f_X11_done σ ((1000 : Int32) / v3)).bind fun q27 => some (q27.1, q27.2)))) else none)))))))))
def f_X11_forge_87 (σ : Mem) (v1 : Int32) (v2 : Int32) (v3 : Int32) (v4 : Int32) (v5 : Int32) (s0 : Int32) (s1 : Int32) : Option (Mem × Int32) :=
  (if s1 = s0 then f_X11_forge_97 σ v1 v2 v3 v4 v5 else ((f_X11_refused σ (11 : Int32)).bind fun q2 => some (q2.1, q2.2)))
def f_X11_forge_61 (σ : Mem) (v1 : Int32) (v2 : Int32) (v3 : Int32) (v4 : Int32) (v5 : Int32) : Option (Mem × Int32) :=
  (if v4 = 0 then ((f_X11_refused σ (10 : Int32)).bind fun q3 => some (q3.1, q3.2)) else (if v2 = (5 : Int32) then f_X11_forge_87 σ v1 v2 v3 v4 v5 (3 : Int32) v4 else f_X11_forge_87 σ v1 v2 v3 v4 v5 (v2 + (1 : Int32)) v4))
def f_X11_forge_31 (σ : Mem) : Option (Mem × Int32) :=
  ((f_X11_refused σ (1 : Int32)).bind fun q1 => some (q1.1, q1.2))
def f_X11_forge_0 (σ : Mem) (a1 : Int32) (a2 : Int32) (a3 : Int32) : Option (Mem × Int32) :=
  (if a1 < 0 then f_X11_forge_31 σ else (if (5 : Int32) < a1 then f_X11_forge_31 σ else (if a2 < 0 then f_X11_forge_31 σ else (if (8 : Int32) < a2 then f_X11_forge_31 σ else (if a3 < (-100 : Int32) then f_X11_forge_31 σ else (if a3 ≤ (100 : Int32) then (if inB a1 6 = true then (if a2 ≤ (3 : Int32) then f_X11_forge_61 σ a1 a2 a3 (gI σ 25 a1.toNatClampNeg) ((16 : Int32) * a1) else (if a2 = (5 : Int32) then f_X11_forge_61 σ a1 a2 a3 (gI σ 25 a1.toNatClampNeg) ((16 : Int32) * a1) else f_X11_forge_97 σ a1 a2 a3 (gI σ 25 a1.toNatClampNeg) ((16 : Int32) * a1))) else none) else f_X11_forge_31 σ))))))
def f_X11_forge (σ : Mem) (a1 : Int32) (a2 : Int32) (a3 : Int32) : Option (Mem × Int32) :=
  f_X11_forge_0 σ a1 a2 a3
abbrev rm_X11_status : Room := { frames := 0, cells := 0, slots := 0, locals := 0 }
def f_X11_status_0 (σ : Mem) : Option (Int32) :=
  some (gI σ 30 0)
def f_X11_status (σ : Mem) : Option (Int32) :=
  f_X11_status_0 σ
section
variable {p : Program} {l : Launch} {e : Env} {s : State} {m : MethodId} {args : Array Value} {below : List Frame} {meth : Method} {c : Code} {g : Gc} {ad : Nat → Nat → Nat}
set_option maxRecDepth 100000 in
set_option maxHeartbeats 4000000 in
theorem t_X11_isPin_0 {χ : Mem} {T : Nat → Mem} {σ : Mem} (C : Cx p s m args meth c cX11_isPin 2 RX11 (some .boolean) COM g) {rr : Int32} (a1 : Int32) (h : f_X11_isPin_0 σ a1 = some rr) : JJ p l e rm_X11_isPin s m args below meth c 2 g ad (MQ below (PoI g ad χ T σ rr) args s 0 0 (geB g)) χ T σ 0 0 [(0, .ref (ad 30 0)), (1, .int a1)] 0 [] := by
  rw [f_X11_isPin_0] at h
  refine j_iload_n C 1 rfl rfl dX11_isPin_0 ?_
  refine j_if_lt (tgt := 16) C (by decide) dX11_isPin_1 (fun hc1 => ?_) (fun hc1 => ?_)
  · replace h := (if_pos hc1).symm.trans h
    refine j_iconst (v := 0) C (by decide) dX11_isPin_16 ?_
    obtain rfl := Option.some.inj h
    exact j_iret C rfl (bo_nar (Or.inl rfl)) (Nat.le_refl _) (Nat.le_refl _) dX11_isPin_17
  · replace h := (if_neg hc1).symm.trans h
    refine j_iload_n C 1 rfl rfl dX11_isPin_4 ?_
    refine j_aload_n C 0 rfl rfl dX11_isPin_5 ?_
    refine j_getG C in_X11 (by decide) cw_30 rfl 0 (by decide) mw_1005 (fun _ h => h) rfl dX11_isPin_6 ?_
    refine j_icmp_ge (tgt := 16) C (by decide) dX11_isPin_9 (fun hc2 => ?_) (fun hc2 => ?_)
    · replace h := (if_pos hc2).symm.trans h
      refine j_iconst (v := 0) C (by decide) dX11_isPin_16 ?_
      obtain rfl := Option.some.inj h
      exact j_iret C rfl (bo_nar (Or.inl rfl)) (Nat.le_refl _) (Nat.le_refl _) dX11_isPin_17
    · replace h := (if_neg hc2).symm.trans h
      refine j_iconst (v := 1) C (by decide) dX11_isPin_12 ?_
      refine j_goto (tgt := 17) C (by decide) dX11_isPin_13 ?_
      obtain rfl := Option.some.inj h
      exact j_iret C rfl (bo_nar (Or.inr rfl)) (Nat.le_refl _) (Nat.le_refl _) dX11_isPin_17
set_option maxRecDepth 100000 in
set_option maxHeartbeats 4000000 in
theorem c_X11_isPin {l : Launch} {g : Gc} {ad : Nat → Nat → Nat} {χ : Mem} {T : Nat → Mem} {σ : Mem} {a1 : Int32} {rr : Int32} (h : f_X11_isPin σ a1 = some rr) : Met l yX11_isPin (WS yX11_isPin cX11_isPin 2 (some .boolean)) rm_X11_isPin (PreW g ad χ T σ [.ref (ad 30 0), .int a1]) (PoI g ad χ T σ rr) 0 0 (geB g) := by
  refine j_metW (by decide) (Nat.le_of_ble_eq_true rfl) fun p e s m below meth c C hname => ?_
  rw [f_X11_isPin] at h
  exact j_sub [0, 1] rfl (t_X11_isPin_0 C a1 h)
set_option maxRecDepth 100000 in
set_option maxHeartbeats 4000000 in
theorem t_X11_isRod_0 {χ : Mem} {T : Nat → Mem} {σ : Mem} (C : Cx p s m args meth c cX11_isRod 2 RX11 (some .boolean) COM g) {rr : Int32} (a1 : Int32) (h : f_X11_isRod_0 σ a1 = some rr) : JJ p l e rm_X11_isRod s m args below meth c 2 g ad (MQ below (PoI g ad χ T σ rr) args s 0 0 (geB g)) χ T σ 0 0 [(0, .ref (ad 30 0)), (1, .int a1)] 0 [] := by
  rw [f_X11_isRod_0] at h
  refine j_iload_n C 1 rfl rfl dX11_isRod_0 ?_
  refine j_if_lt (tgt := 16) C (by decide) dX11_isRod_1 (fun hc1 => ?_) (fun hc1 => ?_)
  · replace h := (if_pos hc1).symm.trans h
    refine j_iconst (v := 0) C (by decide) dX11_isRod_16 ?_
    obtain rfl := Option.some.inj h
    exact j_iret C rfl (bo_nar (Or.inl rfl)) (Nat.le_refl _) (Nat.le_refl _) dX11_isRod_17
  · replace h := (if_neg hc1).symm.trans h
    refine j_iload_n C 1 rfl rfl dX11_isRod_4 ?_
    refine j_aload_n C 0 rfl rfl dX11_isRod_5 ?_
    refine j_getG C in_X11 (by decide) cw_30 rfl 1 (by decide) mw_1006 (fun _ h => h) rfl dX11_isRod_6 ?_
    refine j_icmp_ge (tgt := 16) C (by decide) dX11_isRod_9 (fun hc2 => ?_) (fun hc2 => ?_)
    · replace h := (if_pos hc2).symm.trans h
      refine j_iconst (v := 0) C (by decide) dX11_isRod_16 ?_
      obtain rfl := Option.some.inj h
      exact j_iret C rfl (bo_nar (Or.inl rfl)) (Nat.le_refl _) (Nat.le_refl _) dX11_isRod_17
    · replace h := (if_neg hc2).symm.trans h
      refine j_iconst (v := 1) C (by decide) dX11_isRod_12 ?_
      refine j_goto (tgt := 17) C (by decide) dX11_isRod_13 ?_
      obtain rfl := Option.some.inj h
      exact j_iret C rfl (bo_nar (Or.inr rfl)) (Nat.le_refl _) (Nat.le_refl _) dX11_isRod_17
set_option maxRecDepth 100000 in
set_option maxHeartbeats 4000000 in
theorem c_X11_isRod {l : Launch} {g : Gc} {ad : Nat → Nat → Nat} {χ : Mem} {T : Nat → Mem} {σ : Mem} {a1 : Int32} {rr : Int32} (h : f_X11_isRod σ a1 = some rr) : Met l yX11_isRod (WS yX11_isRod cX11_isRod 2 (some .boolean)) rm_X11_isRod (PreW g ad χ T σ [.ref (ad 30 0), .int a1]) (PoI g ad χ T σ rr) 0 0 (geB g) := by
  refine j_metW (by decide) (Nat.le_of_ble_eq_true rfl) fun p e s m below meth c C hname => ?_
  rw [f_X11_isRod] at h
  exact j_sub [0, 1] rfl (t_X11_isRod_0 C a1 h)
set_option maxRecDepth 100000 in
set_option maxHeartbeats 4000000 in
theorem t_X11_isPlace_0 {χ : Mem} {T : Nat → Mem} {σ : Mem} (C : Cx p s m args meth c cX11_isPlace 1 RX11 (some .boolean) COM g) {rr : Int32} (a1 : Int32) (h : f_X11_isPlace_0 a1 = some rr) : JJ p l e rm_X11_isPlace s m args below meth c 1 g ad (MQ below (PoI g ad χ T σ rr) args s 0 0 (geB g)) χ T σ 0 0 [(0, .int a1)] 0 [] := by
  rw [f_X11_isPlace_0] at h
  refine j_iload_n C 0 rfl rfl dX11_isPlace_0 ?_
  refine j_if_lt (tgt := 13) C (by decide) dX11_isPlace_1 (fun hc1 => ?_) (fun hc1 => ?_)
  · replace h := (if_pos hc1).symm.trans h
    refine j_iconst (v := 0) C (by decide) dX11_isPlace_13 ?_
    obtain rfl := Option.some.inj h
    exact j_iret C rfl (bo_nar (Or.inl rfl)) (Nat.le_refl _) (Nat.le_refl _) dX11_isPlace_14
  · replace h := (if_neg hc1).symm.trans h
    refine j_iload_n C 0 rfl rfl dX11_isPlace_4 ?_
    refine j_iconst (v := 5) C (by decide) dX11_isPlace_5 ?_
    refine j_icmp_gt (tgt := 13) C (by decide) dX11_isPlace_6 (fun hc2 => ?_) (fun hc2 => ?_)
    · replace h := (if_pos hc2).symm.trans h
      refine j_iconst (v := 0) C (by decide) dX11_isPlace_13 ?_
      obtain rfl := Option.some.inj h
      exact j_iret C rfl (bo_nar (Or.inl rfl)) (Nat.le_refl _) (Nat.le_refl _) dX11_isPlace_14
    · replace h := (if_neg hc2).symm.trans h
      refine j_iconst (v := 1) C (by decide) dX11_isPlace_9 ?_
      refine j_goto (tgt := 14) C (by decide) dX11_isPlace_10 ?_
      obtain rfl := Option.some.inj h
      exact j_iret C rfl (bo_nar (Or.inr rfl)) (Nat.le_refl _) (Nat.le_refl _) dX11_isPlace_14
set_option maxRecDepth 100000 in
set_option maxHeartbeats 4000000 in
theorem c_X11_isPlace {l : Launch} {g : Gc} {ad : Nat → Nat → Nat} {χ : Mem} {T : Nat → Mem} {σ : Mem} {a1 : Int32} {rr : Int32} (h : f_X11_isPlace a1 = some rr) : Met l yX11_isPlace (WS yX11_isPlace cX11_isPlace 1 (some .boolean)) rm_X11_isPlace (PreW g ad χ T σ [.int a1]) (PoI g ad χ T σ rr) 0 0 (geB g) := by
  refine j_metW (by decide) (Nat.le_of_ble_eq_true rfl) fun p e s m below meth c C hname => ?_
  rw [f_X11_isPlace] at h
  exact j_sub [0] rfl (t_X11_isPlace_0 C a1 h)
set_option maxRecDepth 100000 in
set_option maxHeartbeats 4000000 in
theorem t_X11_pinAt_2 {χ : Mem} {T : Nat → Mem} {σ : Mem} (C : Cx p s m args meth c cX11_pinAt 4 RX11 (some .int) COM g) {rr : Int32} : ∀ (n : Nat) (v1 : Int32) (v2 : Int32) (v3 : Int32) (h : f_X11_pinAt_2 σ n v1 v2 v3 = some rr), JJ p l e rm_X11_pinAt s m args below meth c 4 g ad (MQ below (PoI g ad χ T σ rr) args s 0 0 (geB g)) χ T σ 0 0 [(0, .ref (ad 30 0)), (1, .int v1), (2, .int v2), (3, .int v3)] 2 [] := by
  intro n
  induction n with
  | zero => intro  v1 v2 v3  h; cases h
  | succ n ih =>
  intro  v1 v2 v3  h
  rw [f_X11_pinAt_2] at h
  refine j_iload_n C 3 rfl rfl dX11_pinAt_2 ?_
  refine j_aload_n C 0 rfl rfl dX11_pinAt_3 ?_
  refine j_getG C in_X11 (by decide) cw_30 rfl 0 (by decide) mw_1005 (fun _ h => h) rfl dX11_pinAt_4 ?_
  refine j_icmp_ge (tgt := 38) C (by decide) dX11_pinAt_7 (fun hc1 => ?_) (fun hc1 => ?_)
  · replace h := (if_pos hc1).symm.trans h
    refine j_iconst (v := -1) C (by decide) dX11_pinAt_38 ?_
    obtain rfl := Option.some.inj h
    exact j_iret C rfl rfl (Nat.le_refl _) (Nat.le_refl _) dX11_pinAt_39
  · replace h := (if_neg hc1).symm.trans h
    refine j_aload_n C 0 rfl rfl dX11_pinAt_10 ?_
    refine j_getG C in_X11 (by decide) cw_30 rfl 2 (by decide) mw_1007 (fun _ h => h) rfl dX11_pinAt_11 ?_
    refine j_iload_n C 3 rfl rfl dX11_pinAt_14 ?_
    obtain ⟨hg2, h⟩ := gd_some h
    refine j_iald C (by decide) cw_31_2 hg2 dX11_pinAt_15 ?_
    refine j_iload_n C 1 rfl rfl dX11_pinAt_16 ?_
    refine j_icmp_ne (tgt := 32) C (by decide) dX11_pinAt_17 (fun hc3 => ?_) (fun hc3 => ?_)
    · replace h := (if_neg hc3).symm.trans h
      refine j_iinc (v := v3 + (1 : Int32)) (L' := [(3, .int (v3 + (1 : Int32))), (0, .ref (ad 30 0)), (1, .int v1), (2, .int v2)]) C 3 rfl rfl (by decide) rfl dX11_pinAt_32 ?_
      refine j_goto (tgt := 2) C (by decide) dX11_pinAt_35 ?_
      exact j_sub [1, 2, 3, 0] rfl (ih v1 v2 (v3 + (1 : Int32)) h)
    · replace h := (if_pos hc3).symm.trans h
      refine j_aload_n C 0 rfl rfl dX11_pinAt_20 ?_
      refine j_getG C in_X11 (by decide) cw_30 rfl 3 (by decide) mw_1008 (fun _ h => h) rfl dX11_pinAt_21 ?_
      refine j_iload_n C 3 rfl rfl dX11_pinAt_24 ?_
      refine j_iald C (by decide) cw_31_3 hg2 dX11_pinAt_25 ?_
      refine j_iload_n C 2 rfl rfl dX11_pinAt_26 ?_
      refine j_icmp_ne (tgt := 32) C (by decide) dX11_pinAt_27 (fun hc4 => ?_) (fun hc4 => ?_)
      · replace h := (if_neg hc4).symm.trans h
        refine j_iinc (v := v3 + (1 : Int32)) (L' := [(3, .int (v3 + (1 : Int32))), (0, .ref (ad 30 0)), (1, .int v1), (2, .int v2)]) C 3 rfl rfl (by decide) rfl dX11_pinAt_32 ?_
        refine j_goto (tgt := 2) C (by decide) dX11_pinAt_35 ?_
        exact j_sub [1, 2, 3, 0] rfl (ih v1 v2 (v3 + (1 : Int32)) h)
      · replace h := (if_pos hc4).symm.trans h
        refine j_iload_n C 3 rfl rfl dX11_pinAt_30 ?_
        obtain rfl := Option.some.inj h
        exact j_iret C rfl rfl (Nat.le_refl _) (Nat.le_refl _) dX11_pinAt_31
set_option maxRecDepth 100000 in
set_option maxHeartbeats 4000000 in
theorem t_X11_pinAt_0 {χ : Mem} {T : Nat → Mem} {σ : Mem} (C : Cx p s m args meth c cX11_pinAt 4 RX11 (some .int) COM g) {rr : Int32} (a1 : Int32) (a2 : Int32) (h : f_X11_pinAt_0 σ a1 a2 = some rr) : JJ p l e rm_X11_pinAt s m args below meth c 4 g ad (MQ below (PoI g ad χ T σ rr) args s 0 0 (geB g)) χ T σ 0 0 [(0, .ref (ad 30 0)), (1, .int a1), (2, .int a2)] 0 [] := by
  rw [f_X11_pinAt_0] at h
  refine j_iconst (v := 0) C (by decide) dX11_pinAt_0 ?_
  refine j_istore_n (L' := [(3, .int (0 : Int32)), (0, .ref (ad 30 0)), (1, .int a1), (2, .int a2)]) C rfl (by decide) rfl dX11_pinAt_1 ?_
  exact j_sub [1, 2, 3, 0] rfl (t_X11_pinAt_2 C FU a1 a2 (0 : Int32) h)
set_option maxRecDepth 100000 in
set_option maxHeartbeats 4000000 in
theorem c_X11_pinAt {l : Launch} {g : Gc} {ad : Nat → Nat → Nat} {χ : Mem} {T : Nat → Mem} {σ : Mem} {a1 : Int32} {a2 : Int32} {rr : Int32} (h : f_X11_pinAt σ a1 a2 = some rr) : Met l yX11_pinAt (WS yX11_pinAt cX11_pinAt 4 (some .int)) rm_X11_pinAt (PreW g ad χ T σ [.ref (ad 30 0), .int a1, .int a2]) (PoI g ad χ T σ rr) 0 0 (geB g) := by
  refine j_metW (by decide) (Nat.le_of_ble_eq_true rfl) fun p e s m below meth c C hname => ?_
  rw [f_X11_pinAt] at h
  exact j_sub [0, 1, 2] rfl (t_X11_pinAt_0 C a1 a2 h)
set_option maxRecDepth 100000 in
set_option maxHeartbeats 4000000 in
theorem t_X11_gcd_28 {χ : Mem} {T : Nat → Mem} {σ : Mem} (C : Cx p s m args meth c cX11_gcd 10 RX11 (some .long) COM g) {rr : Int64} : ∀ (n : Nat) (v4 : Int64) (v6 : Int64) (h : f_X11_gcd_28 n v4 v6 = some rr), JJ p l e rm_X11_gcd s m args below meth c 10 g ad (MQ below (PoL g ad χ T σ rr) args s 0 0 (geB g)) χ T σ 0 0 [(4, .long v4), (6, .long v6)] 28 [] := by
  intro n
  induction n with
  | zero => intro  v4 v6  h; cases h
  | succ n ih =>
  intro  v4 v6  h
  rw [f_X11_gcd_28] at h
  refine j_lload C 1 rfl dX11_gcd_28 ?_
  refine j_lconst (v := 0) C (by decide) dX11_gcd_30 ?_
  refine j_lcmp_eq (tgt := 53) C dX11_gcd_32 (by decide) dX11_gcd_31 (fun hc1 => ?_) (fun hc1 => ?_)
  · replace h := (if_pos hc1).symm.trans h
    refine j_lload C 0 rfl dX11_gcd_53 ?_
    obtain rfl := Option.some.inj h
    exact j_lret C rfl (Nat.le_refl _) (Nat.le_refl _) dX11_gcd_55
  · replace h := (if_neg hc1).symm.trans h
    refine j_lload C 0 rfl dX11_gcd_35 ?_
    refine j_lload C 1 rfl dX11_gcd_37 ?_
    obtain ⟨hg2, h⟩ := gz_some h
    refine j_lrem C hg2 dX11_gcd_39 ?_
    refine j_lstore (L' := [(8, .long (v4 - v4 / v6 * v6)), (4, .long v4), (6, .long v6)]) C (by decide) rfl dX11_gcd_40 ?_
    refine j_lload C 2 rfl dX11_gcd_42 ?_
    refine j_lstore (L' := [(4, .long v6), (8, .long (v4 - v4 / v6 * v6)), (6, .long v6)]) C (by decide) rfl dX11_gcd_44 ?_
    refine j_lload C 1 rfl dX11_gcd_46 ?_
    refine j_lstore (L' := [(6, .long (v4 - v4 / v6 * v6)), (4, .long v6), (8, .long (v4 - v4 / v6 * v6))]) C (by decide) rfl dX11_gcd_48 ?_
    refine j_goto (tgt := 28) C (by decide) dX11_gcd_50 ?_
    exact j_sub [1, 0] rfl (ih v6 (v4 - v4 / v6 * v6) h)
set_option maxRecDepth 100000 in
set_option maxHeartbeats 4000000 in
theorem t_X11_gcd_12 {χ : Mem} {T : Nat → Mem} {σ : Mem} (C : Cx p s m args meth c cX11_gcd 10 RX11 (some .long) COM g) {rr : Int64} (v2 : Int64) (s0 : Int64) (h : f_X11_gcd_12 v2 s0 = some rr) : JJ p l e rm_X11_gcd s m args below meth c 10 g ad (MQ below (PoL g ad χ T σ rr) args s 0 0 (geB g)) χ T σ 0 0 [(2, .long v2)] 12 [.long s0] := by
  rw [f_X11_gcd_12] at h
  refine j_lstore (L' := [(4, .long s0), (2, .long v2)]) C (by decide) rfl dX11_gcd_12 ?_
  refine j_lload_n C 1 rfl rfl dX11_gcd_14 ?_
  refine j_lconst (v := 0) C (by decide) dX11_gcd_15 ?_
  refine j_lcmp_ge (tgt := 25) C dX11_gcd_17 (by decide) dX11_gcd_16 (fun hc1 => ?_) (fun hc1 => ?_)
  · replace h := (if_pos hc1).symm.trans h
    refine j_lload_n C 1 rfl rfl dX11_gcd_25 ?_
    refine j_lstore (L' := [(6, .long v2), (4, .long s0), (2, .long v2)]) C (by decide) rfl dX11_gcd_26 ?_
    exact j_sub [1, 0] rfl (t_X11_gcd_28 C FU s0 v2 h)
  · replace h := (if_neg hc1).symm.trans h
    refine j_lload_n C 1 rfl rfl dX11_gcd_20 ?_
    refine j_lneg C dX11_gcd_21 ?_
    refine j_goto (tgt := 26) C (by decide) dX11_gcd_22 ?_
    refine j_lstore (L' := [(6, .long (-v2)), (4, .long s0), (2, .long v2)]) C (by decide) rfl dX11_gcd_26 ?_
    exact j_sub [1, 0] rfl (t_X11_gcd_28 C FU s0 (-v2) h)
set_option maxRecDepth 100000 in
set_option maxHeartbeats 4000000 in
theorem t_X11_gcd_0 {χ : Mem} {T : Nat → Mem} {σ : Mem} (C : Cx p s m args meth c cX11_gcd 10 RX11 (some .long) COM g) {rr : Int64} (a1 : Int64) (a2 : Int64) (h : f_X11_gcd_0 a1 a2 = some rr) : JJ p l e rm_X11_gcd s m args below meth c 10 g ad (MQ below (PoL g ad χ T σ rr) args s 0 0 (geB g)) χ T σ 0 0 [(0, .long a1), (2, .long a2)] 0 [] := by
  rw [f_X11_gcd_0] at h
  refine j_lload_n C 0 rfl rfl dX11_gcd_0 ?_
  refine j_lconst (v := 0) C (by decide) dX11_gcd_1 ?_
  refine j_lcmp_ge (tgt := 11) C dX11_gcd_3 (by decide) dX11_gcd_2 (fun hc1 => ?_) (fun hc1 => ?_)
  · replace h := (if_pos hc1).symm.trans h
    refine j_lload_n C 0 rfl rfl dX11_gcd_11 ?_
    exact j_sub [1] rfl (t_X11_gcd_12 C a2 a1 h)
  · replace h := (if_neg hc1).symm.trans h
    refine j_lload_n C 0 rfl rfl dX11_gcd_6 ?_
    refine j_lneg C dX11_gcd_7 ?_
    refine j_goto (tgt := 12) C (by decide) dX11_gcd_8 ?_
    exact j_sub [1] rfl (t_X11_gcd_12 C a2 (-a1) h)
set_option maxRecDepth 100000 in
set_option maxHeartbeats 4000000 in
theorem c_X11_gcd {l : Launch} {g : Gc} {ad : Nat → Nat → Nat} {χ : Mem} {T : Nat → Mem} {σ : Mem} {a1 : Int64} {a2 : Int64} {rr : Int64} (h : f_X11_gcd a1 a2 = some rr) : Met l yX11_gcd (WS yX11_gcd cX11_gcd 10 (some .long)) rm_X11_gcd (PreW g ad χ T σ [.long a1, .long a2]) (PoL g ad χ T σ rr) 0 0 (geB g) := by
  refine j_metW (by decide) (Nat.le_of_ble_eq_true rfl) fun p e s m below meth c C hname => ?_
  rw [f_X11_gcd] at h
  exact j_sub [0, 1] rfl (t_X11_gcd_0 C a1 a2 h)
set_option maxRecDepth 100000 in
set_option maxHeartbeats 4000000 in
theorem t_X11_lower_43 {χ : Mem} {T : Nat → Mem} (C : Cx p s m args meth c cX11_lower 6 RX11 none COM g) {rr : Mem} : ∀ (n : Nat) (σ : Mem) (v1 : Int32) (v2 : Int32) (v3 : Int64) (v5 : Int32) (h : f_X11_lower_43 n σ v1 v2 v3 v5 = some rr), JJ p l e rm_X11_lower s m args below meth c 6 g ad (MQ below (PoV g ad χ T (rr)) args s 0 0 (geB g)) χ T σ 0 0 [(0, .ref (ad 30 0)), (1, .int v1), (2, .int v2), (3, .long v3), (5, .int v5)] 43 [] := by
  intro n
  induction n with
  | zero => intro  σ v1 v2 v3 v5  h; cases h
  | succ n ih =>
  intro  σ v1 v2 v3 v5  h
  rw [f_X11_lower_43] at h
  refine j_iload C 4 rfl dX11_lower_43 ?_
  refine j_iload_n C 2 rfl rfl dX11_lower_45 ?_
  refine j_icmp_ge (tgt := 71) C (by decide) dX11_lower_46 (fun hc1 => ?_) (fun hc1 => ?_)
  · replace h := (if_pos hc1).symm.trans h
    obtain rfl := Option.some.inj h
    exact j_vret C rfl (Nat.le_refl _) (Nat.le_refl _) dX11_lower_71
  · replace h := (if_neg hc1).symm.trans h
    refine j_aload_n C 0 rfl rfl dX11_lower_49 ?_
    refine j_getG C in_X11 (by decide) cw_30 rfl 12 (by decide) mw_1017 (fun _ h => h) rfl dX11_lower_50 ?_
    refine j_bipush (v := 16) C (by decide) dX11_lower_53 ?_
    refine j_iload_n C 1 rfl rfl dX11_lower_55 ?_
    refine j_imul C dX11_lower_56 ?_
    refine j_iload C 4 rfl dX11_lower_57 ?_
    refine j_iadd C dX11_lower_59 ?_
    refine j_dup2 C rfl rfl dX11_lower_60 ?_
    obtain ⟨hg2, h⟩ := gd_some h
    refine j_lald C (by decide) cw_31_12 hg2 dX11_lower_61 ?_
    refine j_lload_n C 3 rfl rfl dX11_lower_62 ?_
    obtain ⟨hg3, h⟩ := gz_some h
    refine j_ldiv C hg3 dX11_lower_63 ?_
    refine j_lastP C (by decide) (po_M_m ((((16 : Int32) * v1) + v5).toNatClampNeg) ((gL σ 12 (((16 : Int32) * v1) + v5).toNatClampNeg) / v3)) hg2 dX11_lower_64 ?_
    refine j_iinc (v := v5 + (1 : Int32)) (L' := [(5, .int (v5 + (1 : Int32))), (0, .ref (ad 30 0)), (1, .int v1), (2, .int v2), (3, .long v3)]) C 4 rfl rfl (by decide) rfl dX11_lower_65 ?_
    refine j_goto (tgt := 43) C (by decide) dX11_lower_68 ?_
    exact j_sub [1, 2, 3, 4, 0] rfl (ih (wL σ 12 ((((16 : Int32) * v1) + v5).toNatClampNeg) ((gL σ 12 (((16 : Int32) * v1) + v5).toNatClampNeg) / v3)) v1 v2 v3 (v5 + (1 : Int32)) h)
set_option maxRecDepth 100000 in
set_option maxHeartbeats 4000000 in
theorem t_X11_lower_5 {χ : Mem} {T : Nat → Mem} (C : Cx p s m args meth c cX11_lower 6 RX11 none COM g) {rr : Mem} : ∀ (n : Nat) (σ : Mem) (v1 : Int32) (v2 : Int32) (v3 : Int64) (v5 : Int32) (h : f_X11_lower_5 n σ v1 v2 v3 v5 = some rr), JJ p l e rm_X11_lower s m args below meth c 6 g ad (MQ below (PoV g ad χ T (rr)) args s 0 0 (geB g)) χ T σ 0 0 [(0, .ref (ad 30 0)), (1, .int v1), (2, .int v2), (3, .long v3), (5, .int v5)] 5 [] := by
  intro n
  induction n with
  | zero => intro  σ v1 v2 v3 v5  h; cases h
  | succ n ih =>
  intro  σ v1 v2 v3 v5  h
  rw [f_X11_lower_5] at h
  refine j_iload C 4 rfl dX11_lower_5 ?_
  refine j_iload_n C 2 rfl rfl dX11_lower_7 ?_
  refine j_icmp_ge (tgt := 34) C (by decide) dX11_lower_8 (fun hc1 => ?_) (fun hc1 => ?_)
  · replace h := (if_pos hc1).symm.trans h
    refine j_lload_n C 3 rfl rfl dX11_lower_34 ?_
    refine j_lconst (v := 1) C (by decide) dX11_lower_35 ?_
    refine j_lcmp_le (tgt := 71) C dX11_lower_37 (by decide) dX11_lower_36 (fun hc2 => ?_) (fun hc2 => ?_)
    · replace h := (if_pos hc2).symm.trans h
      obtain rfl := Option.some.inj h
      exact j_vret C rfl (Nat.le_refl _) (Nat.le_refl _) dX11_lower_71
    · replace h := (if_neg hc2).symm.trans h
      refine j_iconst (v := 0) C (by decide) dX11_lower_40 ?_
      refine j_istore (L' := [(5, .int (0 : Int32)), (0, .ref (ad 30 0)), (1, .int v1), (2, .int v2), (3, .long v3)]) C (by decide) rfl dX11_lower_41 ?_
      exact j_sub [1, 2, 3, 4, 0] rfl (t_X11_lower_43 C FU σ v1 v2 v3 (0 : Int32) h)
  · replace h := (if_neg hc1).symm.trans h
    refine j_lload_n C 3 rfl rfl dX11_lower_11 ?_
    refine j_aload_n C 0 rfl rfl dX11_lower_12 ?_
    refine j_getG C in_X11 (by decide) cw_30 rfl 12 (by decide) mw_1017 (fun _ h => h) rfl dX11_lower_13 ?_
    refine j_bipush (v := 16) C (by decide) dX11_lower_16 ?_
    refine j_iload_n C 1 rfl rfl dX11_lower_18 ?_
    refine j_imul C dX11_lower_19 ?_
    refine j_iload C 4 rfl dX11_lower_20 ?_
    refine j_iadd C dX11_lower_22 ?_
    obtain ⟨hg3, h⟩ := gd_some h
    refine j_lald C (by decide) cw_31_12 hg3 dX11_lower_23 ?_
    obtain ⟨q4, hq4, h⟩ := bi_some h
    refine j_callSl (As := [.long v3, .long (gL σ 12 (((16 : Int32) * v1) + v5).toNatClampNeg)]) (rest := []) C (c_X11_gcd hq4) (va_cwS 2 C.ts (good_S mw_1173 mw_1174 mw_73 mw_1175) rfl rfl rfl (by decide +kernel) ⟨Nat.le_of_ble_eq_true rfl, Nat.le_of_ble_eq_true rfl⟩) rfl rfl (Nat.le_of_ble_eq_true rfl) dX11_lower_24 ⟨Nat.zero_le _, Nat.zero_le _⟩ ?_
    refine j_lstore_n (L' := [(3, .long q4), (0, .ref (ad 30 0)), (1, .int v1), (2, .int v2), (5, .int v5)]) C rfl (by decide) rfl dX11_lower_27 ?_
    refine j_iinc (v := v5 + (1 : Int32)) (L' := [(5, .int (v5 + (1 : Int32))), (3, .long q4), (0, .ref (ad 30 0)), (1, .int v1), (2, .int v2)]) C 4 rfl rfl (by decide) rfl dX11_lower_28 ?_
    refine j_goto (tgt := 5) C (by decide) dX11_lower_31 ?_
    exact j_sub [2, 3, 4, 1, 0] rfl (ih σ v1 v2 q4 (v5 + (1 : Int32)) h)
set_option maxRecDepth 100000 in
set_option maxHeartbeats 4000000 in
theorem t_X11_lower_0 {χ : Mem} {T : Nat → Mem} (C : Cx p s m args meth c cX11_lower 6 RX11 none COM g) {rr : Mem} (σ : Mem) (a1 : Int32) (a2 : Int32) (h : f_X11_lower_0 σ a1 a2 = some rr) : JJ p l e rm_X11_lower s m args below meth c 6 g ad (MQ below (PoV g ad χ T (rr)) args s 0 0 (geB g)) χ T σ 0 0 [(0, .ref (ad 30 0)), (1, .int a1), (2, .int a2)] 0 [] := by
  rw [f_X11_lower_0] at h
  refine j_lconst (v := 0) C (by decide) dX11_lower_0 ?_
  refine j_lstore_n (L' := [(3, .long (0 : Int64)), (0, .ref (ad 30 0)), (1, .int a1), (2, .int a2)]) C rfl (by decide) rfl dX11_lower_1 ?_
  refine j_iconst (v := 0) C (by decide) dX11_lower_2 ?_
  refine j_istore (L' := [(5, .int (0 : Int32)), (3, .long (0 : Int64)), (0, .ref (ad 30 0)), (1, .int a1), (2, .int a2)]) C (by decide) rfl dX11_lower_3 ?_
  exact j_sub [2, 3, 4, 1, 0] rfl (t_X11_lower_5 C FU σ a1 a2 (0 : Int64) (0 : Int32) h)
set_option maxRecDepth 100000 in
set_option maxHeartbeats 4000000 in
theorem c_X11_lower {l : Launch} {g : Gc} {ad : Nat → Nat → Nat} {χ : Mem} {T : Nat → Mem} {σ : Mem} {a1 : Int32} {a2 : Int32} {rr : Mem} (h : f_X11_lower σ a1 a2 = some rr) : Met l yX11_lower (WS yX11_lower cX11_lower 6 none) rm_X11_lower (PreW g ad χ T σ [.ref (ad 30 0), .int a1, .int a2]) (PoV g ad χ T (rr)) 0 0 (geB g) := by
  refine j_metW (by decide) (Nat.le_of_ble_eq_true rfl) fun p e s m below meth c C hname => ?_
  rw [f_X11_lower] at h
  exact j_sub [0, 1, 2] rfl (t_X11_lower_0 C σ a1 a2 h)
set_option maxRecDepth 100000 in
set_option maxHeartbeats 4000000 in
theorem t_X11_steps_259 {χ : Mem} {T : Nat → Mem} (C : Cx p s m args meth c cX11_steps 13 RX11 (some .int) COM g) {rr : Mem × Int32} {k26 : Mem → Int32 → Int32 → Int32 → Option (Mem × Int32)} (hk26 : ∀ (σ : Mem) (v1 : Int32) (v2 : Int32) (v3 : Int32) , k26 σ v1 v2 v3 = some rr → JJ p l e rm_X11_steps s m args below meth c 13 g ad (MQ below (PoI g ad χ T (rr.1) rr.2) args s 0 0 (geB g)) χ T σ 0 0 [(0, .ref (ad 30 0)), (1, .int v1), (2, .int v2), (3, .int v3)] 26 []) {k160 : Mem → Int32 → Int32 → Int32 → Int32 → Option (Mem × Int32)} (hk160 : ∀ (σ : Mem) (v1 : Int32) (v2 : Int32) (v3 : Int32) (v5 : Int32) , k160 σ v1 v2 v3 v5 = some rr → JJ p l e rm_X11_steps s m args below meth c 13 g ad (MQ below (PoI g ad χ T (rr.1) rr.2) args s 0 0 (geB g)) χ T σ 0 0 [(0, .ref (ad 30 0)), (1, .int v1), (2, .int v2), (3, .int v3), (5, .int v5)] 160 []) : ∀ (n : Nat) (σ : Mem) (v1 : Int32) (v2 : Int32) (v3 : Int32) (v5 : Int32) (v8 : Int64) (v10 : Int64) (v12 : Int32) (h : f_X11_steps_259 k26 k160 n σ v1 v2 v3 v5 v8 v10 v12 = some rr), JJ p l e rm_X11_steps s m args below meth c 13 g ad (MQ below (PoI g ad χ T (rr.1) rr.2) args s 0 0 (geB g)) χ T σ 0 0 [(0, .ref (ad 30 0)), (1, .int v1), (2, .int v2), (3, .int v3), (5, .int v5), (8, .long v8), (10, .long v10), (12, .int v12)] 259 [] := by
  intro n
  induction n with
  | zero => intro  σ v1 v2 v3 v5 v8 v10 v12  h; cases h
  | succ n ih =>
  intro  σ v1 v2 v3 v5 v8 v10 v12  h
  rw [f_X11_steps_259] at h
  refine j_iload C 7 rfl dX11_steps_259 ?_
  refine j_iload_n C 1 rfl rfl dX11_steps_261 ?_
  refine j_icmp_ge (tgt := 316) C (by decide) dX11_steps_262 (fun hc1 => ?_) (fun hc1 => ?_)
  · replace h := (if_pos hc1).symm.trans h
    refine j_aload_n C 0 rfl rfl dX11_steps_316 ?_
    refine j_iload C 4 rfl dX11_steps_317 ?_
    refine j_iload_n C 1 rfl rfl dX11_steps_319 ?_
    obtain ⟨q2, hq2, h⟩ := bi_some h
    refine j_callVv (As := [.int v5, .int v1]) (rest := []) C (c_X11_lower hq2) (cwV 2 C.ts (good_V mw_1169 mw_1171 mw_44 mw_73 mw_1172) rfl rfl rfl (by decide +kernel) ⟨Nat.le_of_ble_eq_true rfl, Nat.le_of_ble_eq_true rfl⟩) (fun H hW => CW.rv C.k hW (by decide) cw_30 rfl) rfl rfl (Nat.le_of_ble_eq_true rfl) dX11_steps_320 ⟨Nat.zero_le _, Nat.zero_le _⟩ ?_
    refine j_iinc (v := v5 + (1 : Int32)) (L' := [(5, .int (v5 + (1 : Int32))), (0, .ref (ad 30 0)), (1, .int v1), (2, .int v2), (3, .int v3), (8, .long v8), (10, .long v10), (12, .int v12)]) C 4 rfl rfl (by decide) rfl dX11_steps_323 ?_
    refine j_goto (tgt := 160) C (by decide) dX11_steps_326 ?_
    exact j_sub [1, 2, 3, 4, 0] rfl (hk160 q2 v1 v2 v3 (v5 + (1 : Int32)) h)
  · replace h := (if_neg hc1).symm.trans h
    refine j_aload_n C 0 rfl rfl dX11_steps_265 ?_
    refine j_getG C in_X11 (by decide) cw_30 rfl 12 (by decide) mw_1017 (fun _ h => h) rfl dX11_steps_266 ?_
    refine j_bipush (v := 16) C (by decide) dX11_steps_269 ?_
    refine j_iload C 4 rfl dX11_steps_271 ?_
    refine j_imul C dX11_steps_273 ?_
    refine j_iload C 7 rfl dX11_steps_274 ?_
    refine j_iadd C dX11_steps_276 ?_
    refine j_aload_n C 0 rfl rfl dX11_steps_277 ?_
    refine j_getG C in_X11 (by decide) cw_30 rfl 12 (by decide) mw_1017 (fun _ h => h) rfl dX11_steps_278 ?_
    refine j_bipush (v := 16) C (by decide) dX11_steps_281 ?_
    refine j_iload C 4 rfl dX11_steps_283 ?_
    refine j_imul C dX11_steps_285 ?_
    refine j_iload C 7 rfl dX11_steps_286 ?_
    refine j_iadd C dX11_steps_288 ?_
    obtain ⟨hg3, h⟩ := gd_some h
    refine j_lald C (by decide) cw_31_12 hg3 dX11_steps_289 ?_
    refine j_lload C 5 rfl dX11_steps_290 ?_
    refine j_lmul C dX11_steps_292 ?_
    refine j_aload_n C 0 rfl rfl dX11_steps_293 ?_
    refine j_getG C in_X11 (by decide) cw_30 rfl 12 (by decide) mw_1017 (fun _ h => h) rfl dX11_steps_294 ?_
    refine j_bipush (v := 16) C (by decide) dX11_steps_297 ?_
    refine j_iload_n C 2 rfl rfl dX11_steps_299 ?_
    refine j_imul C dX11_steps_300 ?_
    refine j_iload C 7 rfl dX11_steps_301 ?_
    refine j_iadd C dX11_steps_303 ?_
    obtain ⟨hg4, h⟩ := gd_some h
    refine j_lald C (by decide) cw_31_12 hg4 dX11_steps_304 ?_
    refine j_lload C 6 rfl dX11_steps_305 ?_
    refine j_lmul C dX11_steps_307 ?_
    refine j_lsub C dX11_steps_308 ?_
    refine j_lastP C (by decide) (po_M_m ((((16 : Int32) * v5) + v12).toNatClampNeg) (((gL σ 12 (((16 : Int32) * v5) + v12).toNatClampNeg) * v8) - ((gL σ 12 (((16 : Int32) * v2) + v12).toNatClampNeg) * v10))) hg3 dX11_steps_309 ?_
    refine j_iinc (v := v12 + (1 : Int32)) (L' := [(12, .int (v12 + (1 : Int32))), (0, .ref (ad 30 0)), (1, .int v1), (2, .int v2), (3, .int v3), (5, .int v5), (8, .long v8), (10, .long v10)]) C 7 rfl rfl (by decide) rfl dX11_steps_310 ?_
    refine j_goto (tgt := 259) C (by decide) dX11_steps_313 ?_
    exact j_sub [1, 2, 3, 4, 5, 6, 7, 0] rfl (ih (wL σ 12 ((((16 : Int32) * v5) + v12).toNatClampNeg) (((gL σ 12 (((16 : Int32) * v5) + v12).toNatClampNeg) * v8) - ((gL σ 12 (((16 : Int32) * v2) + v12).toNatClampNeg) * v10))) v1 v2 v3 v5 v8 v10 (v12 + (1 : Int32)) h)
set_option maxRecDepth 100000 in
set_option maxHeartbeats 4000000 in
theorem t_X11_steps_160 {χ : Mem} {T : Nat → Mem} (C : Cx p s m args meth c cX11_steps 13 RX11 (some .int) COM g) {rr : Mem × Int32} {k26 : Mem → Int32 → Int32 → Int32 → Option (Mem × Int32)} (hk26 : ∀ (σ : Mem) (v1 : Int32) (v2 : Int32) (v3 : Int32) , k26 σ v1 v2 v3 = some rr → JJ p l e rm_X11_steps s m args below meth c 13 g ad (MQ below (PoI g ad χ T (rr.1) rr.2) args s 0 0 (geB g)) χ T σ 0 0 [(0, .ref (ad 30 0)), (1, .int v1), (2, .int v2), (3, .int v3)] 26 []) : ∀ (n : Nat) (σ : Mem) (v1 : Int32) (v2 : Int32) (v3 : Int32) (v5 : Int32) (h : f_X11_steps_160 k26 n σ v1 v2 v3 v5 = some rr), JJ p l e rm_X11_steps s m args below meth c 13 g ad (MQ below (PoI g ad χ T (rr.1) rr.2) args s 0 0 (geB g)) χ T σ 0 0 [(0, .ref (ad 30 0)), (1, .int v1), (2, .int v2), (3, .int v3), (5, .int v5)] 160 [] := by
  intro n
  induction n with
  | zero => intro  σ v1 v2 v3 v5  h; cases h
  | succ n ih =>
  intro  σ v1 v2 v3 v5  h
  rw [f_X11_steps_160] at h
  refine j_iload C 4 rfl dX11_steps_160 ?_
  refine j_aload_n C 0 rfl rfl dX11_steps_162 ?_
  refine j_getG C in_X11 (by decide) cw_30 rfl 13 (by decide) mw_1018 (fun _ h => h) rfl dX11_steps_163 ?_
  refine j_icmp_ge (tgt := 329) C (by decide) dX11_steps_166 (fun hc1 => ?_) (fun hc1 => ?_)
  · replace h := (if_pos hc1).symm.trans h
    refine j_aload_n C 0 rfl rfl dX11_steps_329 ?_
    refine j_getG C in_X11 (by decide) cw_30 rfl 15 (by decide) mw_1020 (fun _ h => h) rfl dX11_steps_330 ?_
    refine j_iload_n C 3 rfl rfl dX11_steps_333 ?_
    refine j_iload_n C 2 rfl rfl dX11_steps_334 ?_
    refine j_iinc (v := v2 + (1 : Int32)) (L' := [(2, .int (v2 + (1 : Int32))), (0, .ref (ad 30 0)), (1, .int v1), (3, .int v3), (5, .int v5)]) C 2 rfl rfl (by decide) rfl dX11_steps_335 ?_
    obtain ⟨hg2, h⟩ := gd_some h
    refine j_iastP C (by decide) (po_M_rowOf v3.toNatClampNeg v2) hg2 dX11_steps_338 ?_
    refine j_iinc (v := v3 + (1 : Int32)) (L' := [(3, .int (v3 + (1 : Int32))), (2, .int (v2 + (1 : Int32))), (0, .ref (ad 30 0)), (1, .int v1), (5, .int v5)]) C 3 rfl rfl (by decide) rfl dX11_steps_339 ?_
    refine j_goto (tgt := 26) C (by decide) dX11_steps_342 ?_
    exact j_sub [2, 3, 1, 0] rfl (hk26 (wI σ 15 v3.toNatClampNeg v2) v1 (v2 + (1 : Int32)) (v3 + (1 : Int32)) h)
  · replace h := (if_neg hc1).symm.trans h
    refine j_iload C 4 rfl dX11_steps_169 ?_
    refine j_iload_n C 2 rfl rfl dX11_steps_171 ?_
    refine j_icmp_eq (tgt := 323) C (by decide) dX11_steps_172 (fun hc3 => ?_) (fun hc3 => ?_)
    · replace h := (if_pos hc3).symm.trans h
      refine j_iinc (v := v5 + (1 : Int32)) (L' := [(5, .int (v5 + (1 : Int32))), (0, .ref (ad 30 0)), (1, .int v1), (2, .int v2), (3, .int v3)]) C 4 rfl rfl (by decide) rfl dX11_steps_323 ?_
      refine j_goto (tgt := 160) C (by decide) dX11_steps_326 ?_
      exact j_sub [1, 2, 3, 4, 0] rfl (ih σ v1 v2 v3 (v5 + (1 : Int32)) h)
    · replace h := (if_neg hc3).symm.trans h
      refine j_aload_n C 0 rfl rfl dX11_steps_175 ?_
      refine j_getG C in_X11 (by decide) cw_30 rfl 12 (by decide) mw_1017 (fun _ h => h) rfl dX11_steps_176 ?_
      refine j_bipush (v := 16) C (by decide) dX11_steps_179 ?_
      refine j_iload C 4 rfl dX11_steps_181 ?_
      refine j_imul C dX11_steps_183 ?_
      refine j_iload_n C 3 rfl rfl dX11_steps_184 ?_
      refine j_iadd C dX11_steps_185 ?_
      obtain ⟨hg4, h⟩ := gd_some h
      refine j_lald C (by decide) cw_31_12 hg4 dX11_steps_186 ?_
      refine j_lconst (v := 0) C (by decide) dX11_steps_187 ?_
      refine j_lcmp_ne (tgt := 195) C dX11_steps_189 (by decide) dX11_steps_188 (fun hc5 => ?_) (fun hc5 => ?_)
      · replace h := (if_neg hc5).symm.trans h
        refine j_aload_n C 0 rfl rfl dX11_steps_195 ?_
        refine j_getG C in_X11 (by decide) cw_30 rfl 12 (by decide) mw_1017 (fun _ h => h) rfl dX11_steps_196 ?_
        refine j_bipush (v := 16) C (by decide) dX11_steps_199 ?_
        refine j_iload C 4 rfl dX11_steps_201 ?_
        refine j_imul C dX11_steps_203 ?_
        refine j_iload_n C 3 rfl rfl dX11_steps_204 ?_
        refine j_iadd C dX11_steps_205 ?_
        refine j_lald C (by decide) cw_31_12 hg4 dX11_steps_206 ?_
        refine j_aload_n C 0 rfl rfl dX11_steps_207 ?_
        refine j_getG C in_X11 (by decide) cw_30 rfl 12 (by decide) mw_1017 (fun _ h => h) rfl dX11_steps_208 ?_
        refine j_bipush (v := 16) C (by decide) dX11_steps_211 ?_
        refine j_iload_n C 2 rfl rfl dX11_steps_213 ?_
        refine j_imul C dX11_steps_214 ?_
        refine j_iload_n C 3 rfl rfl dX11_steps_215 ?_
        refine j_iadd C dX11_steps_216 ?_
        obtain ⟨hg6, h⟩ := gd_some h
        refine j_lald C (by decide) cw_31_12 hg6 dX11_steps_217 ?_
        obtain ⟨q7, hq7, h⟩ := bi_some h
        refine j_callSl (As := [.long (gL σ 12 (((16 : Int32) * v5) + v3).toNatClampNeg), .long (gL σ 12 (((16 : Int32) * v2) + v3).toNatClampNeg)]) (rest := []) C (c_X11_gcd hq7) (va_cwS 2 C.ts (good_S mw_1173 mw_1174 mw_73 mw_1175) rfl rfl rfl (by decide +kernel) ⟨Nat.le_of_ble_eq_true rfl, Nat.le_of_ble_eq_true rfl⟩) rfl rfl (Nat.le_of_ble_eq_true rfl) dX11_steps_218 ⟨Nat.zero_le _, Nat.zero_le _⟩ ?_
        refine j_lstore (L' := [(6, .long q7), (0, .ref (ad 30 0)), (1, .int v1), (2, .int v2), (3, .int v3), (5, .int v5)]) C (by decide) rfl dX11_steps_221 ?_
        refine j_aload_n C 1 rfl rfl dX11_steps_223 ?_
        refine j_getG C in_X11 (by decide) cw_30 rfl 12 (by decide) mw_1017 (fun _ h => h) rfl dX11_steps_224 ?_
        refine j_bipush (v := 16) C (by decide) dX11_steps_227 ?_
        refine j_iload_n C 3 rfl rfl dX11_steps_229 ?_
        refine j_imul C dX11_steps_230 ?_
        refine j_iload_n C 4 rfl rfl dX11_steps_231 ?_
        refine j_iadd C dX11_steps_232 ?_
        refine j_lald C (by decide) cw_31_12 hg6 dX11_steps_233 ?_
        refine j_lload C 0 rfl dX11_steps_234 ?_
        obtain ⟨hg8, h⟩ := gz_some h
        refine j_ldiv C hg8 dX11_steps_236 ?_
        refine j_lstore (L' := [(8, .long ((gL σ 12 (((16 : Int32) * v2) + v3).toNatClampNeg) / q7)), (6, .long q7), (0, .ref (ad 30 0)), (1, .int v1), (2, .int v2), (3, .int v3), (5, .int v5)]) C (by decide) rfl dX11_steps_237 ?_
        refine j_aload_n C 2 rfl rfl dX11_steps_239 ?_
        refine j_getG C in_X11 (by decide) cw_30 rfl 12 (by decide) mw_1017 (fun _ h => h) rfl dX11_steps_240 ?_
        refine j_bipush (v := 16) C (by decide) dX11_steps_243 ?_
        refine j_iload C 6 rfl dX11_steps_245 ?_
        refine j_imul C dX11_steps_247 ?_
        refine j_iload_n C 5 rfl rfl dX11_steps_248 ?_
        refine j_iadd C dX11_steps_249 ?_
        refine j_lald C (by decide) cw_31_12 hg4 dX11_steps_250 ?_
        refine j_lload C 1 rfl dX11_steps_251 ?_
        refine j_ldiv C hg8 dX11_steps_253 ?_
        refine j_lstore (L' := [(10, .long ((gL σ 12 (((16 : Int32) * v5) + v3).toNatClampNeg) / q7)), (8, .long ((gL σ 12 (((16 : Int32) * v2) + v3).toNatClampNeg) / q7)), (6, .long q7), (0, .ref (ad 30 0)), (1, .int v1), (2, .int v2), (3, .int v3), (5, .int v5)]) C (by decide) rfl dX11_steps_254 ?_
        refine j_iconst (v := 0) C (by decide) dX11_steps_256 ?_
        refine j_istore (L' := [(12, .int (0 : Int32)), (10, .long ((gL σ 12 (((16 : Int32) * v5) + v3).toNatClampNeg) / q7)), (8, .long ((gL σ 12 (((16 : Int32) * v2) + v3).toNatClampNeg) / q7)), (6, .long q7), (0, .ref (ad 30 0)), (1, .int v1), (2, .int v2), (3, .int v3), (5, .int v5)]) C (by decide) rfl dX11_steps_257 ?_
        exact j_sub [4, 5, 6, 7, 8, 2, 1, 0] rfl (t_X11_steps_259 C hk26 ih FU σ v1 v2 v3 v5 ((gL σ 12 (((16 : Int32) * v2) + v3).toNatClampNeg) / q7) ((gL σ 12 (((16 : Int32) * v5) + v3).toNatClampNeg) / q7) (0 : Int32) h)
      · replace h := (if_pos hc5).symm.trans h
        refine j_goto (tgt := 323) C (by decide) dX11_steps_192 ?_
        refine j_iinc (v := v5 + (1 : Int32)) (L' := [(5, .int (v5 + (1 : Int32))), (0, .ref (ad 30 0)), (1, .int v1), (2, .int v2), (3, .int v3)]) C 4 rfl rfl (by decide) rfl dX11_steps_323 ?_
        refine j_goto (tgt := 160) C (by decide) dX11_steps_326 ?_
        exact j_sub [1, 2, 3, 4, 0] rfl (ih σ v1 v2 v3 (v5 + (1 : Int32)) h)
set_option maxRecDepth 100000 in
set_option maxHeartbeats 4000000 in
theorem t_X11_steps_91 {χ : Mem} {T : Nat → Mem} (C : Cx p s m args meth c cX11_steps 13 RX11 (some .int) COM g) {rr : Mem × Int32} {k26 : Mem → Int32 → Int32 → Int32 → Option (Mem × Int32)} (hk26 : ∀ (σ : Mem) (v1 : Int32) (v2 : Int32) (v3 : Int32) , k26 σ v1 v2 v3 = some rr → JJ p l e rm_X11_steps s m args below meth c 13 g ad (MQ below (PoI g ad χ T (rr.1) rr.2) args s 0 0 (geB g)) χ T σ 0 0 [(0, .ref (ad 30 0)), (1, .int v1), (2, .int v2), (3, .int v3)] 26 []) : ∀ (n : Nat) (σ : Mem) (v1 : Int32) (v2 : Int32) (v3 : Int32) (v4 : Int32) (v5 : Int32) (h : f_X11_steps_91 k26 n σ v1 v2 v3 v4 v5 = some rr), JJ p l e rm_X11_steps s m args below meth c 13 g ad (MQ below (PoI g ad χ T (rr.1) rr.2) args s 0 0 (geB g)) χ T σ 0 0 [(0, .ref (ad 30 0)), (1, .int v1), (2, .int v2), (3, .int v3), (4, .int v4), (5, .int v5)] 91 [] := by
  intro n
  induction n with
  | zero => intro  σ v1 v2 v3 v4 v5  h; cases h
  | succ n ih =>
  intro  σ v1 v2 v3 v4 v5  h
  rw [f_X11_steps_91] at h
  refine j_iload C 5 rfl dX11_steps_91 ?_
  refine j_iload_n C 1 rfl rfl dX11_steps_93 ?_
  refine j_icmp_ge (tgt := 157) C (by decide) dX11_steps_94 (fun hc1 => ?_) (fun hc1 => ?_)
  · replace h := (if_pos hc1).symm.trans h
    refine j_iconst (v := 0) C (by decide) dX11_steps_157 ?_
    refine j_istore (L' := [(5, .int (0 : Int32)), (0, .ref (ad 30 0)), (1, .int v1), (2, .int v2), (3, .int v3), (4, .int v4)]) C (by decide) rfl dX11_steps_158 ?_
    exact j_sub [1, 2, 3, 4, 0] rfl (t_X11_steps_160 C hk26 FU σ v1 v2 v3 (0 : Int32) h)
  · replace h := (if_neg hc1).symm.trans h
    refine j_aload_n C 0 rfl rfl dX11_steps_97 ?_
    refine j_getG C in_X11 (by decide) cw_30 rfl 12 (by decide) mw_1017 (fun _ h => h) rfl dX11_steps_98 ?_
    refine j_bipush (v := 16) C (by decide) dX11_steps_101 ?_
    refine j_iload C 4 rfl dX11_steps_103 ?_
    refine j_imul C dX11_steps_105 ?_
    refine j_iload C 5 rfl dX11_steps_106 ?_
    refine j_iadd C dX11_steps_108 ?_
    obtain ⟨hg2, h⟩ := gd_some h
    refine j_lald C (by decide) cw_31_12 hg2 dX11_steps_109 ?_
    refine j_lstore (L' := [(6, .long (gL σ 12 (((16 : Int32) * v4) + v5).toNatClampNeg)), (0, .ref (ad 30 0)), (1, .int v1), (2, .int v2), (3, .int v3), (4, .int v4), (5, .int v5)]) C (by decide) rfl dX11_steps_110 ?_
    refine j_aload_n C 1 rfl rfl dX11_steps_112 ?_
    refine j_getG C in_X11 (by decide) cw_30 rfl 12 (by decide) mw_1017 (fun _ h => h) rfl dX11_steps_113 ?_
    refine j_bipush (v := 16) C (by decide) dX11_steps_116 ?_
    refine j_iload C 5 rfl dX11_steps_118 ?_
    refine j_imul C dX11_steps_120 ?_
    refine j_iload C 6 rfl dX11_steps_121 ?_
    refine j_iadd C dX11_steps_123 ?_
    refine j_aload_n C 1 rfl rfl dX11_steps_124 ?_
    refine j_getG C in_X11 (by decide) cw_30 rfl 12 (by decide) mw_1017 (fun _ h => h) rfl dX11_steps_125 ?_
    refine j_bipush (v := 16) C (by decide) dX11_steps_128 ?_
    refine j_iload_n C 3 rfl rfl dX11_steps_130 ?_
    refine j_imul C dX11_steps_131 ?_
    refine j_iload C 6 rfl dX11_steps_132 ?_
    refine j_iadd C dX11_steps_134 ?_
    obtain ⟨hg3, h⟩ := gd_some h
    refine j_lald C (by decide) cw_31_12 hg3 dX11_steps_135 ?_
    refine j_lastP C (by decide) (po_M_m ((((16 : Int32) * v4) + v5).toNatClampNeg) (gL σ 12 (((16 : Int32) * v2) + v5).toNatClampNeg)) hg2 dX11_steps_136 ?_
    refine j_aload_n C 1 rfl rfl dX11_steps_137 ?_
    refine j_getG C in_X11 (by decide) cw_30 rfl 12 (by decide) mw_1017 (fun _ h => h) rfl dX11_steps_138 ?_
    refine j_bipush (v := 16) C (by decide) dX11_steps_141 ?_
    refine j_iload_n C 3 rfl rfl dX11_steps_143 ?_
    refine j_imul C dX11_steps_144 ?_
    refine j_iload C 6 rfl dX11_steps_145 ?_
    refine j_iadd C dX11_steps_147 ?_
    refine j_lload C 0 rfl dX11_steps_148 ?_
    refine j_lastP C (by decide) (po_M_m ((((16 : Int32) * v2) + v5).toNatClampNeg) (gL σ 12 (((16 : Int32) * v4) + v5).toNatClampNeg)) hg3 dX11_steps_150 ?_
    refine j_iinc (v := v5 + (1 : Int32)) (L' := [(5, .int (v5 + (1 : Int32))), (6, .long (gL σ 12 (((16 : Int32) * v4) + v5).toNatClampNeg)), (0, .ref (ad 30 0)), (1, .int v1), (2, .int v2), (3, .int v3), (4, .int v4)]) C 6 rfl rfl (by decide) rfl dX11_steps_151 ?_
    refine j_goto (tgt := 91) C (by decide) dX11_steps_154 ?_
    exact j_sub [2, 3, 4, 5, 6, 0] rfl (ih (wL (wL σ 12 ((((16 : Int32) * v4) + v5).toNatClampNeg) (gL σ 12 (((16 : Int32) * v2) + v5).toNatClampNeg)) 12 ((((16 : Int32) * v2) + v5).toNatClampNeg) (gL σ 12 (((16 : Int32) * v4) + v5).toNatClampNeg)) v1 v2 v3 v4 (v5 + (1 : Int32)) h)
set_option maxRecDepth 100000 in
set_option maxHeartbeats 4000000 in
theorem t_X11_steps_76 {χ : Mem} {T : Nat → Mem} (C : Cx p s m args meth c cX11_steps 13 RX11 (some .int) COM g) {rr : Mem × Int32} {k26 : Mem → Int32 → Int32 → Int32 → Option (Mem × Int32)} (hk26 : ∀ (σ : Mem) (v1 : Int32) (v2 : Int32) (v3 : Int32) , k26 σ v1 v2 v3 = some rr → JJ p l e rm_X11_steps s m args below meth c 13 g ad (MQ below (PoI g ad χ T (rr.1) rr.2) args s 0 0 (geB g)) χ T σ 0 0 [(0, .ref (ad 30 0)), (1, .int v1), (2, .int v2), (3, .int v3)] 26 []) (σ : Mem) (v1 : Int32) (v2 : Int32) (v3 : Int32) (v4 : Int32) (h : f_X11_steps_76 k26 σ v1 v2 v3 v4 = some rr) : JJ p l e rm_X11_steps s m args below meth c 13 g ad (MQ below (PoI g ad χ T (rr.1) rr.2) args s 0 0 (geB g)) χ T σ 0 0 [(0, .ref (ad 30 0)), (1, .int v1), (2, .int v2), (3, .int v3), (4, .int v4)] 76 [] := by
  rw [f_X11_steps_76] at h
  refine j_iload C 4 rfl dX11_steps_76 ?_
  refine j_aload_n C 0 rfl rfl dX11_steps_78 ?_
  refine j_getG C in_X11 (by decide) cw_30 rfl 13 (by decide) mw_1018 (fun _ h => h) rfl dX11_steps_79 ?_
  refine j_icmp_lt (tgt := 88) C (by decide) dX11_steps_82 (fun hc1 => ?_) (fun hc1 => ?_)
  · replace h := (if_pos hc1).symm.trans h
    refine j_iconst (v := 0) C (by decide) dX11_steps_88 ?_
    refine j_istore (L' := [(5, .int (0 : Int32)), (0, .ref (ad 30 0)), (1, .int v1), (2, .int v2), (3, .int v3), (4, .int v4)]) C (by decide) rfl dX11_steps_89 ?_
    exact j_sub [1, 2, 3, 4, 5, 0] rfl (t_X11_steps_91 C hk26 FU σ v1 v2 v3 v4 (0 : Int32) h)
  · replace h := (if_neg hc1).symm.trans h
    refine j_goto (tgt := 339) C (by decide) dX11_steps_85 ?_
    refine j_iinc (v := v3 + (1 : Int32)) (L' := [(3, .int (v3 + (1 : Int32))), (0, .ref (ad 30 0)), (1, .int v1), (2, .int v2), (4, .int v4)]) C 3 rfl rfl (by decide) rfl dX11_steps_339 ?_
    refine j_goto (tgt := 26) C (by decide) dX11_steps_342 ?_
    exact j_sub [1, 2, 3, 0] rfl (hk26 σ v1 v2 (v3 + (1 : Int32)) h)
set_option maxRecDepth 100000 in
set_option maxHeartbeats 4000000 in
theorem t_X11_steps_44 {χ : Mem} {T : Nat → Mem} (C : Cx p s m args meth c cX11_steps 13 RX11 (some .int) COM g) {rr : Mem × Int32} {k26 : Mem → Int32 → Int32 → Int32 → Option (Mem × Int32)} (hk26 : ∀ (σ : Mem) (v1 : Int32) (v2 : Int32) (v3 : Int32) , k26 σ v1 v2 v3 = some rr → JJ p l e rm_X11_steps s m args below meth c 13 g ad (MQ below (PoI g ad χ T (rr.1) rr.2) args s 0 0 (geB g)) χ T σ 0 0 [(0, .ref (ad 30 0)), (1, .int v1), (2, .int v2), (3, .int v3)] 26 []) : ∀ (n : Nat) (σ : Mem) (v1 : Int32) (v2 : Int32) (v3 : Int32) (v4 : Int32) (h : f_X11_steps_44 k26 n σ v1 v2 v3 v4 = some rr), JJ p l e rm_X11_steps s m args below meth c 13 g ad (MQ below (PoI g ad χ T (rr.1) rr.2) args s 0 0 (geB g)) χ T σ 0 0 [(0, .ref (ad 30 0)), (1, .int v1), (2, .int v2), (3, .int v3), (4, .int v4)] 44 [] := by
  intro n
  induction n with
  | zero => intro  σ v1 v2 v3 v4  h; cases h
  | succ n ih =>
  intro  σ v1 v2 v3 v4  h
  rw [f_X11_steps_44] at h
  refine j_iload C 4 rfl dX11_steps_44 ?_
  refine j_aload_n C 0 rfl rfl dX11_steps_46 ?_
  refine j_getG C in_X11 (by decide) cw_30 rfl 13 (by decide) mw_1018 (fun _ h => h) rfl dX11_steps_47 ?_
  refine j_icmp_ge (tgt := 76) C (by decide) dX11_steps_50 (fun hc1 => ?_) (fun hc1 => ?_)
  · replace h := (if_pos hc1).symm.trans h
    exact j_sub [0, 1, 2, 3, 4] rfl (t_X11_steps_76 C hk26 σ v1 v2 v3 v4 h)
  · replace h := (if_neg hc1).symm.trans h
    refine j_aload_n C 0 rfl rfl dX11_steps_53 ?_
    refine j_getG C in_X11 (by decide) cw_30 rfl 12 (by decide) mw_1017 (fun _ h => h) rfl dX11_steps_54 ?_
    refine j_bipush (v := 16) C (by decide) dX11_steps_57 ?_
    refine j_iload C 4 rfl dX11_steps_59 ?_
    refine j_imul C dX11_steps_61 ?_
    refine j_iload_n C 3 rfl rfl dX11_steps_62 ?_
    refine j_iadd C dX11_steps_63 ?_
    obtain ⟨hg2, h⟩ := gd_some h
    refine j_lald C (by decide) cw_31_12 hg2 dX11_steps_64 ?_
    refine j_lconst (v := 0) C (by decide) dX11_steps_65 ?_
    refine j_lcmp_ne (tgt := 76) C dX11_steps_67 (by decide) dX11_steps_66 (fun hc3 => ?_) (fun hc3 => ?_)
    · replace h := (if_neg hc3).symm.trans h
      exact j_sub [0, 1, 2, 3, 4] rfl (t_X11_steps_76 C hk26 σ v1 v2 v3 v4 h)
    · replace h := (if_pos hc3).symm.trans h
      refine j_iinc (v := v4 + (1 : Int32)) (L' := [(4, .int (v4 + (1 : Int32))), (0, .ref (ad 30 0)), (1, .int v1), (2, .int v2), (3, .int v3)]) C 4 rfl rfl (by decide) rfl dX11_steps_70 ?_
      refine j_goto (tgt := 44) C (by decide) dX11_steps_73 ?_
      exact j_sub [1, 2, 3, 4, 0] rfl (ih σ v1 v2 v3 (v4 + (1 : Int32)) h)
set_option maxRecDepth 100000 in
set_option maxHeartbeats 4000000 in
theorem t_X11_steps_26 {χ : Mem} {T : Nat → Mem} (C : Cx p s m args meth c cX11_steps 13 RX11 (some .int) COM g) {rr : Mem × Int32} : ∀ (n : Nat) (σ : Mem) (v1 : Int32) (v2 : Int32) (v3 : Int32) (h : f_X11_steps_26 n σ v1 v2 v3 = some rr), JJ p l e rm_X11_steps s m args below meth c 13 g ad (MQ below (PoI g ad χ T (rr.1) rr.2) args s 0 0 (geB g)) χ T σ 0 0 [(0, .ref (ad 30 0)), (1, .int v1), (2, .int v2), (3, .int v3)] 26 [] := by
  intro n
  induction n with
  | zero => intro  σ v1 v2 v3  h; cases h
  | succ n ih =>
  intro  σ v1 v2 v3  h
  rw [f_X11_steps_26] at h
  refine j_iload_n C 3 rfl rfl dX11_steps_26 ?_
  refine j_aload_n C 0 rfl rfl dX11_steps_27 ?_
  refine j_getG C in_X11 (by decide) cw_30 rfl 14 (by decide) mw_1019 (fun _ h => h) rfl dX11_steps_28 ?_
  refine j_icmp_ge (tgt := 345) C (by decide) dX11_steps_31 (fun hc1 => ?_) (fun hc1 => ?_)
  · replace h := (if_pos hc1).symm.trans h
    refine j_iload_n C 2 rfl rfl dX11_steps_345 ?_
    obtain rfl := Option.some.inj h
    exact j_iret C rfl rfl (Nat.le_refl _) (Nat.le_refl _) dX11_steps_346
  · replace h := (if_neg hc1).symm.trans h
    refine j_aload_n C 0 rfl rfl dX11_steps_34 ?_
    refine j_getG C in_X11 (by decide) cw_30 rfl 15 (by decide) mw_1020 (fun _ h => h) rfl dX11_steps_35 ?_
    refine j_iload_n C 3 rfl rfl dX11_steps_38 ?_
    refine j_iconst (v := -1) C (by decide) dX11_steps_39 ?_
    obtain ⟨hg2, h⟩ := gd_some h
    refine j_iastP C (by decide) (po_M_rowOf v3.toNatClampNeg (-1 : Int32)) hg2 dX11_steps_40 ?_
    refine j_iload_n C 2 rfl rfl dX11_steps_41 ?_
    refine j_istore (L' := [(4, .int v2), (0, .ref (ad 30 0)), (1, .int v1), (2, .int v2), (3, .int v3)]) C (by decide) rfl dX11_steps_42 ?_
    exact j_sub [1, 2, 3, 4, 0] rfl (t_X11_steps_44 C ih FU (wI σ 15 v3.toNatClampNeg (-1 : Int32)) v1 v2 v3 v2 h)
set_option maxRecDepth 100000 in
set_option maxHeartbeats 4000000 in
theorem t_X11_steps_4 {χ : Mem} {T : Nat → Mem} (C : Cx p s m args meth c cX11_steps 13 RX11 (some .int) COM g) {rr : Mem × Int32} : ∀ (n : Nat) (σ : Mem) (v1 : Int32) (v2 : Int32) (v3 : Int32) (h : f_X11_steps_4 n σ v1 v2 v3 = some rr), JJ p l e rm_X11_steps s m args below meth c 13 g ad (MQ below (PoI g ad χ T (rr.1) rr.2) args s 0 0 (geB g)) χ T σ 0 0 [(0, .ref (ad 30 0)), (1, .int v1), (2, .int v2), (3, .int v3)] 4 [] := by
  intro n
  induction n with
  | zero => intro  σ v1 v2 v3  h; cases h
  | succ n ih =>
  intro  σ v1 v2 v3  h
  rw [f_X11_steps_4] at h
  refine j_iload_n C 3 rfl rfl dX11_steps_4 ?_
  refine j_aload_n C 0 rfl rfl dX11_steps_5 ?_
  refine j_getG C in_X11 (by decide) cw_30 rfl 13 (by decide) mw_1018 (fun _ h => h) rfl dX11_steps_6 ?_
  refine j_icmp_ge (tgt := 24) C (by decide) dX11_steps_9 (fun hc1 => ?_) (fun hc1 => ?_)
  · replace h := (if_pos hc1).symm.trans h
    refine j_iconst (v := 0) C (by decide) dX11_steps_24 ?_
    refine j_istore_n (L' := [(3, .int (0 : Int32)), (0, .ref (ad 30 0)), (1, .int v1), (2, .int v2)]) C rfl (by decide) rfl dX11_steps_25 ?_
    exact j_sub [1, 2, 3, 0] rfl (t_X11_steps_26 C FU σ v1 v2 (0 : Int32) h)
  · replace h := (if_neg hc1).symm.trans h
    refine j_aload_n C 0 rfl rfl dX11_steps_12 ?_
    refine j_iload_n C 3 rfl rfl dX11_steps_13 ?_
    refine j_iload_n C 1 rfl rfl dX11_steps_14 ?_
    obtain ⟨q2, hq2, h⟩ := bi_some h
    refine j_callVv (As := [.int v3, .int v1]) (rest := []) C (c_X11_lower hq2) (cwV 2 C.ts (good_V mw_1169 mw_1171 mw_44 mw_73 mw_1172) rfl rfl rfl (by decide +kernel) ⟨Nat.le_of_ble_eq_true rfl, Nat.le_of_ble_eq_true rfl⟩) (fun H hW => CW.rv C.k hW (by decide) cw_30 rfl) rfl rfl (Nat.le_of_ble_eq_true rfl) dX11_steps_15 ⟨Nat.zero_le _, Nat.zero_le _⟩ ?_
    refine j_iinc (v := v3 + (1 : Int32)) (L' := [(3, .int (v3 + (1 : Int32))), (0, .ref (ad 30 0)), (1, .int v1), (2, .int v2)]) C 3 rfl rfl (by decide) rfl dX11_steps_18 ?_
    refine j_goto (tgt := 4) C (by decide) dX11_steps_21 ?_
    exact j_sub [1, 2, 3, 0] rfl (ih q2 v1 v2 (v3 + (1 : Int32)) h)
set_option maxRecDepth 100000 in
set_option maxHeartbeats 4000000 in
theorem t_X11_steps_0 {χ : Mem} {T : Nat → Mem} (C : Cx p s m args meth c cX11_steps 13 RX11 (some .int) COM g) {rr : Mem × Int32} (σ : Mem) (a1 : Int32) (h : f_X11_steps_0 σ a1 = some rr) : JJ p l e rm_X11_steps s m args below meth c 13 g ad (MQ below (PoI g ad χ T (rr.1) rr.2) args s 0 0 (geB g)) χ T σ 0 0 [(0, .ref (ad 30 0)), (1, .int a1)] 0 [] := by
  rw [f_X11_steps_0] at h
  refine j_iconst (v := 0) C (by decide) dX11_steps_0 ?_
  refine j_istore_n (L' := [(2, .int (0 : Int32)), (0, .ref (ad 30 0)), (1, .int a1)]) C rfl (by decide) rfl dX11_steps_1 ?_
  refine j_iconst (v := 0) C (by decide) dX11_steps_2 ?_
  refine j_istore_n (L' := [(3, .int (0 : Int32)), (2, .int (0 : Int32)), (0, .ref (ad 30 0)), (1, .int a1)]) C rfl (by decide) rfl dX11_steps_3 ?_
  exact j_sub [2, 3, 1, 0] rfl (t_X11_steps_4 C FU σ a1 (0 : Int32) (0 : Int32) h)
set_option maxRecDepth 100000 in
set_option maxHeartbeats 4000000 in
theorem c_X11_steps {l : Launch} {g : Gc} {ad : Nat → Nat → Nat} {χ : Mem} {T : Nat → Mem} {σ : Mem} {a1 : Int32} {rr : Mem × Int32} (h : f_X11_steps σ a1 = some rr) : Met l yX11_steps (WS yX11_steps cX11_steps 13 (some .int)) rm_X11_steps (PreW g ad χ T σ [.ref (ad 30 0), .int a1]) (PoI g ad χ T (rr.1) rr.2) 0 0 (geB g) := by
  refine j_metW (by decide) (Nat.le_of_ble_eq_true rfl) fun p e s m below meth c C hname => ?_
  rw [f_X11_steps] at h
  exact j_sub [0, 1] rfl (t_X11_steps_0 C σ a1 h)
set_option maxRecDepth 100000 in
set_option maxHeartbeats 4000000 in
theorem t_X11_loose_10 {χ : Mem} {T : Nat → Mem} {σ : Mem} (C : Cx p s m args meth c cX11_loose 4 RX11 (some .int) COM g) {rr : Int32} : ∀ (n : Nat) (v2 : Int32) (v3 : Int32) (h : f_X11_loose_10 σ n v2 v3 = some rr), JJ p l e rm_X11_loose s m args below meth c 4 g ad (MQ below (PoI g ad χ T σ rr) args s 0 0 (geB g)) χ T σ 0 0 [(0, .ref (ad 30 0)), (2, .int v2), (3, .int v3)] 10 [] := by
  intro n
  induction n with
  | zero => intro  v2 v3  h; cases h
  | succ n ih =>
  intro  v2 v3  h
  rw [f_X11_loose_10] at h
  refine j_iload_n C 2 rfl rfl dX11_loose_10 ?_
  refine j_aload_n C 0 rfl rfl dX11_loose_11 ?_
  refine j_getG C in_X11 (by decide) cw_30 rfl 14 (by decide) mw_1019 (fun _ h => h) rfl dX11_loose_12 ?_
  refine j_icmp_ge (tgt := 43) C (by decide) dX11_loose_15 (fun hc1 => ?_) (fun hc1 => ?_)
  · replace h := (if_pos hc1).symm.trans h
    refine j_iconst (v := -1) C (by decide) dX11_loose_43 ?_
    obtain rfl := Option.some.inj h
    exact j_iret C rfl rfl (Nat.le_refl _) (Nat.le_refl _) dX11_loose_44
  · replace h := (if_neg hc1).symm.trans h
    refine j_aload_n C 0 rfl rfl dX11_loose_18 ?_
    refine j_getG C in_X11 (by decide) cw_30 rfl 15 (by decide) mw_1020 (fun _ h => h) rfl dX11_loose_19 ?_
    refine j_iload_n C 2 rfl rfl dX11_loose_22 ?_
    obtain ⟨hg2, h⟩ := gd_some h
    refine j_iald C (by decide) cw_31_15 hg2 dX11_loose_23 ?_
    refine j_iconst (v := -1) C (by decide) dX11_loose_24 ?_
    refine j_icmp_ne (tgt := 37) C (by decide) dX11_loose_25 (fun hc3 => ?_) (fun hc3 => ?_)
    · replace h := (if_neg hc3).symm.trans h
      refine j_iinc (v := v3 + (1 : Int32)) (L' := [(3, .int (v3 + (1 : Int32))), (0, .ref (ad 30 0)), (2, .int v2)]) C 2 rfl rfl (by decide) rfl dX11_loose_37 ?_
      refine j_goto (tgt := 10) C (by decide) dX11_loose_40 ?_
      exact j_sub [1, 2, 0] rfl (ih v2 (v3 + (1 : Int32)) h)
    · replace h := (if_pos hc3).symm.trans h
      refine j_iload_n C 1 rfl rfl dX11_loose_28 ?_
      refine j_iinc (v := v2 + (-1 : Int32)) (L' := [(2, .int (v2 + (-1 : Int32))), (0, .ref (ad 30 0)), (3, .int v3)]) C 1 rfl (congrArg (fun z => v2 + z) (by decide)) (by decide) rfl dX11_loose_29 ?_
      refine j_if_ne (tgt := 37) C (by decide) dX11_loose_32 (fun hc4 => ?_) (fun hc4 => ?_)
      · replace h := (if_neg hc4).symm.trans h
        refine j_iinc (v := v3 + (1 : Int32)) (L' := [(3, .int (v3 + (1 : Int32))), (2, .int (v2 + (-1 : Int32))), (0, .ref (ad 30 0))]) C 2 rfl rfl (by decide) rfl dX11_loose_37 ?_
        refine j_goto (tgt := 10) C (by decide) dX11_loose_40 ?_
        exact j_sub [2, 1, 0] rfl (ih (v2 + (-1 : Int32)) (v3 + (1 : Int32)) h)
      · replace h := (if_pos hc4).symm.trans h
        refine j_iload_n C 2 rfl rfl dX11_loose_35 ?_
        obtain rfl := Option.some.inj h
        exact j_iret C rfl rfl (Nat.le_refl _) (Nat.le_refl _) dX11_loose_36
set_option maxRecDepth 100000 in
set_option maxHeartbeats 4000000 in
theorem t_X11_loose_0 {χ : Mem} {T : Nat → Mem} {σ : Mem} (C : Cx p s m args meth c cX11_loose 4 RX11 (some .int) COM g) {rr : Int32} (a1 : Int32) (h : f_X11_loose_0 σ a1 = some rr) : JJ p l e rm_X11_loose s m args below meth c 4 g ad (MQ below (PoI g ad χ T σ rr) args s 0 0 (geB g)) χ T σ 0 0 [(0, .ref (ad 30 0)), (1, .int a1)] 0 [] := by
  rw [f_X11_loose_0] at h
  refine j_iload_n C 1 rfl rfl dX11_loose_0 ?_
  refine j_if_ge (tgt := 6) C (by decide) dX11_loose_1 (fun hc1 => ?_) (fun hc1 => ?_)
  · replace h := (if_pos hc1).symm.trans h
    refine j_iload_n C 1 rfl rfl dX11_loose_6 ?_
    refine j_istore_n (L' := [(2, .int a1), (0, .ref (ad 30 0)), (1, .int a1)]) C rfl (by decide) rfl dX11_loose_7 ?_
    refine j_iconst (v := 0) C (by decide) dX11_loose_8 ?_
    refine j_istore_n (L' := [(3, .int (0 : Int32)), (2, .int a1), (0, .ref (ad 30 0)), (1, .int a1)]) C rfl (by decide) rfl dX11_loose_9 ?_
    exact j_sub [2, 1, 0] rfl (t_X11_loose_10 C FU a1 (0 : Int32) h)
  · replace h := (if_neg hc1).symm.trans h
    refine j_iconst (v := -1) C (by decide) dX11_loose_4 ?_
    obtain rfl := Option.some.inj h
    exact j_iret C rfl rfl (Nat.le_refl _) (Nat.le_refl _) dX11_loose_5
set_option maxRecDepth 100000 in
set_option maxHeartbeats 4000000 in
theorem c_X11_loose {l : Launch} {g : Gc} {ad : Nat → Nat → Nat} {χ : Mem} {T : Nat → Mem} {σ : Mem} {a1 : Int32} {rr : Int32} (h : f_X11_loose σ a1 = some rr) : Met l yX11_loose (WS yX11_loose cX11_loose 4 (some .int)) rm_X11_loose (PreW g ad χ T σ [.ref (ad 30 0), .int a1]) (PoI g ad χ T σ rr) 0 0 (geB g) := by
  refine j_metW (by decide) (Nat.le_of_ble_eq_true rfl) fun p e s m below meth c C hname => ?_
  rw [f_X11_loose] at h
  exact j_sub [0, 1] rfl (t_X11_loose_0 C a1 h)
set_option maxRecDepth 100000 in
set_option maxHeartbeats 4000000 in
theorem t_X11_nulOf_262 {χ : Mem} {T : Nat → Mem} (C : Cx p s m args meth c cX11_nulOf 11 RX11 none COM g) {rr : Mem} : ∀ (n : Nat) (σ : Mem) (v4 : Int64) (v6 : Int32) (h : f_X11_nulOf_262 n σ v4 v6 = some rr), JJ p l e rm_X11_nulOf s m args below meth c 11 g ad (MQ below (PoV g ad χ T (rr)) args s 0 0 (geB g)) χ T σ 0 0 [(0, .ref (ad 30 0)), (4, .long v4), (6, .int v6)] 262 [] := by
  intro n
  induction n with
  | zero => intro  σ v4 v6  h; cases h
  | succ n ih =>
  intro  σ v4 v6  h
  rw [f_X11_nulOf_262] at h
  refine j_iload C 2 rfl dX11_nulOf_262 ?_
  refine j_aload_n C 0 rfl rfl dX11_nulOf_264 ?_
  refine j_getG C in_X11 (by decide) cw_30 rfl 14 (by decide) mw_1019 (fun _ h => h) rfl dX11_nulOf_265 ?_
  refine j_icmp_ge (tgt := 289) C (by decide) dX11_nulOf_268 (fun hc1 => ?_) (fun hc1 => ?_)
  · replace h := (if_pos hc1).symm.trans h
    obtain rfl := Option.some.inj h
    exact j_vret C rfl (Nat.le_refl _) (Nat.le_refl _) dX11_nulOf_289
  · replace h := (if_neg hc1).symm.trans h
    refine j_aload_n C 0 rfl rfl dX11_nulOf_271 ?_
    refine j_getG C in_X11 (by decide) cw_30 rfl 16 (by decide) mw_1021 (fun _ h => h) rfl dX11_nulOf_272 ?_
    refine j_iload C 2 rfl dX11_nulOf_275 ?_
    refine j_dup2 C rfl rfl dX11_nulOf_277 ?_
    obtain ⟨hg2, h⟩ := gd_some h
    refine j_lald C (by decide) cw_31_16 hg2 dX11_nulOf_278 ?_
    refine j_lload C 1 rfl dX11_nulOf_279 ?_
    obtain ⟨hg3, h⟩ := gz_some h
    refine j_ldiv C hg3 dX11_nulOf_281 ?_
    refine j_lastP C (by decide) (po_M_nul v6.toNatClampNeg ((gL σ 16 v6.toNatClampNeg) / v4)) hg2 dX11_nulOf_282 ?_
    refine j_iinc (v := v6 + (1 : Int32)) (L' := [(6, .int (v6 + (1 : Int32))), (0, .ref (ad 30 0)), (4, .long v4)]) C 2 rfl rfl (by decide) rfl dX11_nulOf_283 ?_
    refine j_goto (tgt := 262) C (by decide) dX11_nulOf_286 ?_
    exact j_sub [1, 2, 0] rfl (ih (wL σ 16 v6.toNatClampNeg ((gL σ 16 v6.toNatClampNeg) / v4)) v4 (v6 + (1 : Int32)) h)
set_option maxRecDepth 100000 in
set_option maxHeartbeats 4000000 in
theorem t_X11_nulOf_230 {χ : Mem} {T : Nat → Mem} (C : Cx p s m args meth c cX11_nulOf 11 RX11 none COM g) {rr : Mem} : ∀ (n : Nat) (σ : Mem) (v4 : Int64) (v6 : Int32) (h : f_X11_nulOf_230 n σ v4 v6 = some rr), JJ p l e rm_X11_nulOf s m args below meth c 11 g ad (MQ below (PoV g ad χ T (rr)) args s 0 0 (geB g)) χ T σ 0 0 [(0, .ref (ad 30 0)), (4, .long v4), (6, .int v6)] 230 [] := by
  intro n
  induction n with
  | zero => intro  σ v4 v6  h; cases h
  | succ n ih =>
  intro  σ v4 v6  h
  rw [f_X11_nulOf_230] at h
  refine j_iload C 2 rfl dX11_nulOf_230 ?_
  refine j_aload_n C 0 rfl rfl dX11_nulOf_232 ?_
  refine j_getG C in_X11 (by decide) cw_30 rfl 14 (by decide) mw_1019 (fun _ h => h) rfl dX11_nulOf_233 ?_
  refine j_icmp_ge (tgt := 259) C (by decide) dX11_nulOf_236 (fun hc1 => ?_) (fun hc1 => ?_)
  · replace h := (if_pos hc1).symm.trans h
    refine j_iconst (v := 0) C (by decide) dX11_nulOf_259 ?_
    refine j_istore (L' := [(6, .int (0 : Int32)), (0, .ref (ad 30 0)), (4, .long v4)]) C (by decide) rfl dX11_nulOf_260 ?_
    exact j_sub [1, 2, 0] rfl (t_X11_nulOf_262 C FU σ v4 (0 : Int32) h)
  · replace h := (if_neg hc1).symm.trans h
    refine j_lload C 1 rfl dX11_nulOf_239 ?_
    refine j_aload_n C 0 rfl rfl dX11_nulOf_241 ?_
    refine j_getG C in_X11 (by decide) cw_30 rfl 16 (by decide) mw_1021 (fun _ h => h) rfl dX11_nulOf_242 ?_
    refine j_iload C 2 rfl dX11_nulOf_245 ?_
    obtain ⟨hg2, h⟩ := gd_some h
    refine j_lald C (by decide) cw_31_16 hg2 dX11_nulOf_247 ?_
    obtain ⟨q3, hq3, h⟩ := bi_some h
    refine j_callSl (As := [.long v4, .long (gL σ 16 v6.toNatClampNeg)]) (rest := []) C (c_X11_gcd hq3) (va_cwS 2 C.ts (good_S mw_1173 mw_1174 mw_73 mw_1175) rfl rfl rfl (by decide +kernel) ⟨Nat.le_of_ble_eq_true rfl, Nat.le_of_ble_eq_true rfl⟩) rfl rfl (Nat.le_of_ble_eq_true rfl) dX11_nulOf_248 ⟨Nat.zero_le _, Nat.zero_le _⟩ ?_
    refine j_lstore (L' := [(4, .long q3), (0, .ref (ad 30 0)), (6, .int v6)]) C (by decide) rfl dX11_nulOf_251 ?_
    refine j_iinc (v := v6 + (1 : Int32)) (L' := [(6, .int (v6 + (1 : Int32))), (4, .long q3), (0, .ref (ad 30 0))]) C 2 rfl rfl (by decide) rfl dX11_nulOf_253 ?_
    refine j_goto (tgt := 230) C (by decide) dX11_nulOf_256 ?_
    exact j_sub [2, 1, 0] rfl (ih σ q3 (v6 + (1 : Int32)) h)
set_option maxRecDepth 100000 in
set_option maxHeartbeats 4000000 in
theorem t_X11_nulOf_108 {χ : Mem} {T : Nat → Mem} (C : Cx p s m args meth c cX11_nulOf 11 RX11 none COM g) {rr : Mem} : ∀ (n : Nat) (σ : Mem) (v1 : Int32) (v2 : Int64) (v4 : Int32) (h : f_X11_nulOf_108 n σ v1 v2 v4 = some rr), JJ p l e rm_X11_nulOf s m args below meth c 11 g ad (MQ below (PoV g ad χ T (rr)) args s 0 0 (geB g)) χ T σ 0 0 [(0, .ref (ad 30 0)), (1, .int v1), (2, .long v2), (4, .int v4)] 108 [] := by
  intro n
  induction n with
  | zero => intro  σ v1 v2 v4  h; cases h
  | succ n ih =>
  intro  σ v1 v2 v4  h
  rw [f_X11_nulOf_108] at h
  refine j_iload C 3 rfl dX11_nulOf_108 ?_
  refine j_aload_n C 0 rfl rfl dX11_nulOf_110 ?_
  refine j_getG C in_X11 (by decide) cw_30 rfl 14 (by decide) mw_1019 (fun _ h => h) rfl dX11_nulOf_111 ?_
  refine j_icmp_ge (tgt := 224) C (by decide) dX11_nulOf_114 (fun hc1 => ?_) (fun hc1 => ?_)
  · replace h := (if_pos hc1).symm.trans h
    refine j_lconst (v := 0) C (by decide) dX11_nulOf_224 ?_
    refine j_lstore (L' := [(4, .long (0 : Int64)), (0, .ref (ad 30 0)), (1, .int v1), (2, .long v2)]) C (by decide) rfl dX11_nulOf_225 ?_
    refine j_iconst (v := 0) C (by decide) dX11_nulOf_227 ?_
    refine j_istore (L' := [(6, .int (0 : Int32)), (4, .long (0 : Int64)), (0, .ref (ad 30 0)), (1, .int v1), (2, .long v2)]) C (by decide) rfl dX11_nulOf_228 ?_
    exact j_sub [2, 1, 0] rfl (t_X11_nulOf_230 C FU σ (0 : Int64) (0 : Int32) h)
  · replace h := (if_neg hc1).symm.trans h
    refine j_aload_n C 0 rfl rfl dX11_nulOf_117 ?_
    refine j_getG C in_X11 (by decide) cw_30 rfl 15 (by decide) mw_1020 (fun _ h => h) rfl dX11_nulOf_118 ?_
    refine j_iload C 3 rfl dX11_nulOf_121 ?_
    obtain ⟨hg2, h⟩ := gd_some h
    refine j_iald C (by decide) cw_31_15 hg2 dX11_nulOf_123 ?_
    refine j_iconst (v := -1) C (by decide) dX11_nulOf_124 ?_
    refine j_icmp_ne (tgt := 149) C (by decide) dX11_nulOf_125 (fun hc3 => ?_) (fun hc3 => ?_)
    · replace h := (if_neg hc3).symm.trans h
      refine j_aload_n C 0 rfl rfl dX11_nulOf_149 ?_
      refine j_getG C in_X11 (by decide) cw_30 rfl 12 (by decide) mw_1017 (fun _ h => h) rfl dX11_nulOf_150 ?_
      refine j_bipush (v := 16) C (by decide) dX11_nulOf_153 ?_
      refine j_aload_n C 0 rfl rfl dX11_nulOf_155 ?_
      refine j_getG C in_X11 (by decide) cw_30 rfl 15 (by decide) mw_1020 (fun _ h => h) rfl dX11_nulOf_156 ?_
      refine j_iload C 3 rfl dX11_nulOf_159 ?_
      refine j_iald C (by decide) cw_31_15 hg2 dX11_nulOf_161 ?_
      refine j_imul C dX11_nulOf_162 ?_
      refine j_iload C 3 rfl dX11_nulOf_163 ?_
      refine j_iadd C dX11_nulOf_165 ?_
      obtain ⟨hg4, h⟩ := gd_some h
      refine j_lald C (by decide) cw_31_12 hg4 dX11_nulOf_166 ?_
      refine j_lstore (L' := [(5, .long (gL σ 12 (((16 : Int32) * (gI σ 15 v4.toNatClampNeg)) + v4).toNatClampNeg)), (0, .ref (ad 30 0)), (1, .int v1), (2, .long v2), (4, .int v4)]) C (by decide) rfl dX11_nulOf_167 ?_
      refine j_aload_n C 1 rfl rfl dX11_nulOf_169 ?_
      refine j_getG C in_X11 (by decide) cw_30 rfl 12 (by decide) mw_1017 (fun _ h => h) rfl dX11_nulOf_170 ?_
      refine j_bipush (v := 16) C (by decide) dX11_nulOf_173 ?_
      refine j_aload_n C 1 rfl rfl dX11_nulOf_175 ?_
      refine j_getG C in_X11 (by decide) cw_30 rfl 15 (by decide) mw_1020 (fun _ h => h) rfl dX11_nulOf_176 ?_
      refine j_iload C 4 rfl dX11_nulOf_179 ?_
      refine j_iald C (by decide) cw_31_15 hg2 dX11_nulOf_181 ?_
      refine j_imul C dX11_nulOf_182 ?_
      refine j_iload_n C 2 rfl rfl dX11_nulOf_183 ?_
      refine j_iadd C dX11_nulOf_184 ?_
      obtain ⟨hg5, h⟩ := gd_some h
      refine j_lald C (by decide) cw_31_12 hg5 dX11_nulOf_185 ?_
      refine j_lstore (L' := [(7, .long (gL σ 12 (((16 : Int32) * (gI σ 15 v4.toNatClampNeg)) + v1).toNatClampNeg)), (5, .long (gL σ 12 (((16 : Int32) * (gI σ 15 v4.toNatClampNeg)) + v4).toNatClampNeg)), (0, .ref (ad 30 0)), (1, .int v1), (2, .long v2), (4, .int v4)]) C (by decide) rfl dX11_nulOf_186 ?_
      refine j_lload C 1 rfl dX11_nulOf_188 ?_
      refine j_lload C 0 rfl dX11_nulOf_190 ?_
      obtain ⟨q6, hq6, h⟩ := bi_some h
      refine j_callSl (As := [.long (gL σ 12 (((16 : Int32) * (gI σ 15 v4.toNatClampNeg)) + v4).toNatClampNeg), .long (gL σ 12 (((16 : Int32) * (gI σ 15 v4.toNatClampNeg)) + v1).toNatClampNeg)]) (rest := []) C (c_X11_gcd hq6) (va_cwS 2 C.ts (good_S mw_1173 mw_1174 mw_73 mw_1175) rfl rfl rfl (by decide +kernel) ⟨Nat.le_of_ble_eq_true rfl, Nat.le_of_ble_eq_true rfl⟩) rfl rfl (Nat.le_of_ble_eq_true rfl) dX11_nulOf_192 ⟨Nat.zero_le _, Nat.zero_le _⟩ ?_
      refine j_lstore (L' := [(9, .long q6), (7, .long (gL σ 12 (((16 : Int32) * (gI σ 15 v4.toNatClampNeg)) + v1).toNatClampNeg)), (5, .long (gL σ 12 (((16 : Int32) * (gI σ 15 v4.toNatClampNeg)) + v4).toNatClampNeg)), (0, .ref (ad 30 0)), (1, .int v1), (2, .long v2), (4, .int v4)]) C (by decide) rfl dX11_nulOf_195 ?_
      refine j_aload_n C 3 rfl rfl dX11_nulOf_197 ?_
      refine j_getG C in_X11 (by decide) cw_30 rfl 16 (by decide) mw_1021 (fun _ h => h) rfl dX11_nulOf_198 ?_
      refine j_iload C 6 rfl dX11_nulOf_201 ?_
      refine j_lload C 1 rfl dX11_nulOf_203 ?_
      refine j_lload C 0 rfl dX11_nulOf_205 ?_
      obtain ⟨hg7, h⟩ := gz_some h
      refine j_ldiv C hg7 dX11_nulOf_207 ?_
      refine j_lneg C dX11_nulOf_208 ?_
      refine j_lload_n C 5 rfl rfl dX11_nulOf_209 ?_
      refine j_lload C 2 rfl dX11_nulOf_210 ?_
      refine j_lload C 0 rfl dX11_nulOf_212 ?_
      refine j_ldiv C hg7 dX11_nulOf_214 ?_
      obtain ⟨hg8, h⟩ := gz_some h
      refine j_ldiv C hg8 dX11_nulOf_215 ?_
      refine j_lmul C dX11_nulOf_216 ?_
      refine j_lastP C (by decide) (po_M_nul v4.toNatClampNeg ((-((gL σ 12 (((16 : Int32) * (gI σ 15 v4.toNatClampNeg)) + v1).toNatClampNeg) / q6)) * (v2 / ((gL σ 12 (((16 : Int32) * (gI σ 15 v4.toNatClampNeg)) + v4).toNatClampNeg) / q6)))) hg2 dX11_nulOf_217 ?_
      refine j_iinc (v := v4 + (1 : Int32)) (L' := [(4, .int (v4 + (1 : Int32))), (9, .long q6), (7, .long (gL σ 12 (((16 : Int32) * (gI σ 15 v4.toNatClampNeg)) + v1).toNatClampNeg)), (5, .long (gL σ 12 (((16 : Int32) * (gI σ 15 v4.toNatClampNeg)) + v4).toNatClampNeg)), (0, .ref (ad 30 0)), (1, .int v1), (2, .long v2)]) C 6 rfl rfl (by decide) rfl dX11_nulOf_218 ?_
      refine j_goto (tgt := 108) C (by decide) dX11_nulOf_221 ?_
      exact j_sub [4, 5, 6, 0] rfl (ih (wL σ 16 v4.toNatClampNeg ((-((gL σ 12 (((16 : Int32) * (gI σ 15 v4.toNatClampNeg)) + v1).toNatClampNeg) / q6)) * (v2 / ((gL σ 12 (((16 : Int32) * (gI σ 15 v4.toNatClampNeg)) + v4).toNatClampNeg) / q6)))) v1 v2 (v4 + (1 : Int32)) h)
    · replace h := (if_pos hc3).symm.trans h
      refine j_aload_n C 0 rfl rfl dX11_nulOf_128 ?_
      refine j_getG C in_X11 (by decide) cw_30 rfl 16 (by decide) mw_1021 (fun _ h => h) rfl dX11_nulOf_129 ?_
      refine j_iload C 3 rfl dX11_nulOf_132 ?_
      refine j_iload C 3 rfl dX11_nulOf_134 ?_
      refine j_iload_n C 1 rfl rfl dX11_nulOf_136 ?_
      refine j_icmp_ne (tgt := 144) C (by decide) dX11_nulOf_137 (fun hc9 => ?_) (fun hc9 => ?_)
      · replace h := (if_neg hc9).symm.trans h
        refine j_lconst (v := 0) C (by decide) dX11_nulOf_144 ?_
        refine j_lastP C (by decide) (po_M_nul v4.toNatClampNeg (0 : Int64)) hg2 dX11_nulOf_145 ?_
        refine j_goto (tgt := 218) C (by decide) dX11_nulOf_146 ?_
        refine j_iinc (v := v4 + (1 : Int32)) (L' := [(4, .int (v4 + (1 : Int32))), (0, .ref (ad 30 0)), (1, .int v1), (2, .long v2)]) C 3 rfl rfl (by decide) rfl dX11_nulOf_218 ?_
        refine j_goto (tgt := 108) C (by decide) dX11_nulOf_221 ?_
        exact j_sub [1, 2, 3, 0] rfl (ih (wL σ 16 v4.toNatClampNeg (0 : Int64)) v1 v2 (v4 + (1 : Int32)) h)
      · replace h := (if_pos hc9).symm.trans h
        refine j_lload_n C 2 rfl rfl dX11_nulOf_140 ?_
        refine j_goto (tgt := 145) C (by decide) dX11_nulOf_141 ?_
        refine j_lastP C (by decide) (po_M_nul v4.toNatClampNeg v2) hg2 dX11_nulOf_145 ?_
        refine j_goto (tgt := 218) C (by decide) dX11_nulOf_146 ?_
        refine j_iinc (v := v4 + (1 : Int32)) (L' := [(4, .int (v4 + (1 : Int32))), (0, .ref (ad 30 0)), (1, .int v1), (2, .long v2)]) C 3 rfl rfl (by decide) rfl dX11_nulOf_218 ?_
        refine j_goto (tgt := 108) C (by decide) dX11_nulOf_221 ?_
        exact j_sub [1, 2, 3, 0] rfl (ih (wL σ 16 v4.toNatClampNeg v2) v1 v2 (v4 + (1 : Int32)) h)
set_option maxRecDepth 100000 in
set_option maxHeartbeats 4000000 in
theorem t_X11_nulOf_87 {χ : Mem} {T : Nat → Mem} (C : Cx p s m args meth c cX11_nulOf 11 RX11 none COM g) {rr : Mem} {k5 : Mem → Int32 → Int64 → Int32 → Option (Mem)} (hk5 : ∀ (σ : Mem) (v1 : Int32) (v2 : Int64) (v4 : Int32) , k5 σ v1 v2 v4 = some rr → JJ p l e rm_X11_nulOf s m args below meth c 11 g ad (MQ below (PoV g ad χ T (rr)) args s 0 0 (geB g)) χ T σ 0 0 [(0, .ref (ad 30 0)), (1, .int v1), (2, .long v2), (4, .int v4)] 5 []) (σ : Mem) (v1 : Int32) (v2 : Int64) (v4 : Int32) (v7 : Int64) (h : f_X11_nulOf_87 k5 σ v1 v2 v4 v7 = some rr) : JJ p l e rm_X11_nulOf s m args below meth c 11 g ad (MQ below (PoV g ad χ T (rr)) args s 0 0 (geB g)) χ T σ 0 0 [(0, .ref (ad 30 0)), (1, .int v1), (2, .long v2), (4, .int v4), (7, .long v7)] 87 [] := by
  rw [f_X11_nulOf_87] at h
  refine j_lload_n C 2 rfl rfl dX11_nulOf_87 ?_
  refine j_lload_n C 2 rfl rfl dX11_nulOf_88 ?_
  refine j_lload C 4 rfl dX11_nulOf_89 ?_
  obtain ⟨q1, hq1, h⟩ := bi_some h
  refine j_callSl (As := [.long v2, .long v7]) (rest := [.long v2]) C (c_X11_gcd hq1) (va_cwS 2 C.ts (good_S mw_1173 mw_1174 mw_73 mw_1175) rfl rfl rfl (by decide +kernel) ⟨Nat.le_of_ble_eq_true rfl, Nat.le_of_ble_eq_true rfl⟩) rfl rfl (Nat.le_of_ble_eq_true rfl) dX11_nulOf_91 ⟨Nat.zero_le _, Nat.zero_le _⟩ ?_
  obtain ⟨hg2, h⟩ := gz_some h
  refine j_ldiv C hg2 dX11_nulOf_94 ?_
  refine j_lload C 4 rfl dX11_nulOf_95 ?_
  refine j_lmul C dX11_nulOf_97 ?_
  refine j_lstore_n (L' := [(2, .long ((v2 / q1) * v7)), (0, .ref (ad 30 0)), (1, .int v1), (4, .int v4), (7, .long v7)]) C rfl (by decide) rfl dX11_nulOf_98 ?_
  refine j_iinc (v := v4 + (1 : Int32)) (L' := [(4, .int (v4 + (1 : Int32))), (2, .long ((v2 / q1) * v7)), (0, .ref (ad 30 0)), (1, .int v1), (7, .long v7)]) C 3 rfl rfl (by decide) rfl dX11_nulOf_99 ?_
  refine j_goto (tgt := 5) C (by decide) dX11_nulOf_102 ?_
  exact j_sub [2, 3, 1, 0] rfl (hk5 σ v1 ((v2 / q1) * v7) (v4 + (1 : Int32)) h)
set_option maxRecDepth 100000 in
set_option maxHeartbeats 4000000 in
theorem t_X11_nulOf_5 {χ : Mem} {T : Nat → Mem} (C : Cx p s m args meth c cX11_nulOf 11 RX11 none COM g) {rr : Mem} : ∀ (n : Nat) (σ : Mem) (v1 : Int32) (v2 : Int64) (v4 : Int32) (h : f_X11_nulOf_5 n σ v1 v2 v4 = some rr), JJ p l e rm_X11_nulOf s m args below meth c 11 g ad (MQ below (PoV g ad χ T (rr)) args s 0 0 (geB g)) χ T σ 0 0 [(0, .ref (ad 30 0)), (1, .int v1), (2, .long v2), (4, .int v4)] 5 [] := by
  intro n
  induction n with
  | zero => intro  σ v1 v2 v4  h; cases h
  | succ n ih =>
  intro  σ v1 v2 v4  h
  rw [f_X11_nulOf_5] at h
  refine j_iload C 3 rfl dX11_nulOf_5 ?_
  refine j_aload_n C 0 rfl rfl dX11_nulOf_7 ?_
  refine j_getG C in_X11 (by decide) cw_30 rfl 14 (by decide) mw_1019 (fun _ h => h) rfl dX11_nulOf_8 ?_
  refine j_icmp_ge (tgt := 105) C (by decide) dX11_nulOf_11 (fun hc1 => ?_) (fun hc1 => ?_)
  · replace h := (if_pos hc1).symm.trans h
    refine j_iconst (v := 0) C (by decide) dX11_nulOf_105 ?_
    refine j_istore (L' := [(4, .int (0 : Int32)), (0, .ref (ad 30 0)), (1, .int v1), (2, .long v2)]) C (by decide) rfl dX11_nulOf_106 ?_
    exact j_sub [1, 2, 3, 0] rfl (t_X11_nulOf_108 C FU σ v1 v2 (0 : Int32) h)
  · replace h := (if_neg hc1).symm.trans h
    refine j_aload_n C 0 rfl rfl dX11_nulOf_14 ?_
    refine j_getG C in_X11 (by decide) cw_30 rfl 15 (by decide) mw_1020 (fun _ h => h) rfl dX11_nulOf_15 ?_
    refine j_iload C 3 rfl dX11_nulOf_18 ?_
    obtain ⟨hg2, h⟩ := gd_some h
    refine j_iald C (by decide) cw_31_15 hg2 dX11_nulOf_20 ?_
    refine j_iconst (v := -1) C (by decide) dX11_nulOf_21 ?_
    refine j_icmp_ne (tgt := 28) C (by decide) dX11_nulOf_22 (fun hc3 => ?_) (fun hc3 => ?_)
    · replace h := (if_neg hc3).symm.trans h
      refine j_aload_n C 0 rfl rfl dX11_nulOf_28 ?_
      refine j_getG C in_X11 (by decide) cw_30 rfl 12 (by decide) mw_1017 (fun _ h => h) rfl dX11_nulOf_29 ?_
      refine j_bipush (v := 16) C (by decide) dX11_nulOf_32 ?_
      refine j_aload_n C 0 rfl rfl dX11_nulOf_34 ?_
      refine j_getG C in_X11 (by decide) cw_30 rfl 15 (by decide) mw_1020 (fun _ h => h) rfl dX11_nulOf_35 ?_
      refine j_iload C 3 rfl dX11_nulOf_38 ?_
      refine j_iald C (by decide) cw_31_15 hg2 dX11_nulOf_40 ?_
      refine j_imul C dX11_nulOf_41 ?_
      refine j_iload C 3 rfl dX11_nulOf_42 ?_
      refine j_iadd C dX11_nulOf_44 ?_
      obtain ⟨hg4, h⟩ := gd_some h
      refine j_lald C (by decide) cw_31_12 hg4 dX11_nulOf_45 ?_
      refine j_lstore (L' := [(5, .long (gL σ 12 (((16 : Int32) * (gI σ 15 v4.toNatClampNeg)) + v4).toNatClampNeg)), (0, .ref (ad 30 0)), (1, .int v1), (2, .long v2), (4, .int v4)]) C (by decide) rfl dX11_nulOf_46 ?_
      refine j_lload C 0 rfl dX11_nulOf_48 ?_
      refine j_lload C 0 rfl dX11_nulOf_50 ?_
      refine j_aload_n C 1 rfl rfl dX11_nulOf_52 ?_
      refine j_getG C in_X11 (by decide) cw_30 rfl 12 (by decide) mw_1017 (fun _ h => h) rfl dX11_nulOf_53 ?_
      refine j_bipush (v := 16) C (by decide) dX11_nulOf_56 ?_
      refine j_aload_n C 1 rfl rfl dX11_nulOf_58 ?_
      refine j_getG C in_X11 (by decide) cw_30 rfl 15 (by decide) mw_1020 (fun _ h => h) rfl dX11_nulOf_59 ?_
      refine j_iload C 4 rfl dX11_nulOf_62 ?_
      refine j_iald C (by decide) cw_31_15 hg2 dX11_nulOf_64 ?_
      refine j_imul C dX11_nulOf_65 ?_
      refine j_iload_n C 2 rfl rfl dX11_nulOf_66 ?_
      refine j_iadd C dX11_nulOf_67 ?_
      obtain ⟨hg5, h⟩ := gd_some h
      refine j_lald C (by decide) cw_31_12 hg5 dX11_nulOf_68 ?_
      obtain ⟨q6, hq6, h⟩ := bi_some h
      refine j_callSl (As := [.long (gL σ 12 (((16 : Int32) * (gI σ 15 v4.toNatClampNeg)) + v4).toNatClampNeg), .long (gL σ 12 (((16 : Int32) * (gI σ 15 v4.toNatClampNeg)) + v1).toNatClampNeg)]) (rest := [.long (gL σ 12 (((16 : Int32) * (gI σ 15 v4.toNatClampNeg)) + v4).toNatClampNeg)]) C (c_X11_gcd hq6) (va_cwS 2 C.ts (good_S mw_1173 mw_1174 mw_73 mw_1175) rfl rfl rfl (by decide +kernel) ⟨Nat.le_of_ble_eq_true rfl, Nat.le_of_ble_eq_true rfl⟩) rfl rfl (Nat.le_of_ble_eq_true rfl) dX11_nulOf_69 ⟨Nat.zero_le _, Nat.zero_le _⟩ ?_
      obtain ⟨hg7, h⟩ := gz_some h
      refine j_ldiv C hg7 dX11_nulOf_72 ?_
      refine j_lstore (L' := [(7, .long ((gL σ 12 (((16 : Int32) * (gI σ 15 v4.toNatClampNeg)) + v4).toNatClampNeg) / q6)), (5, .long (gL σ 12 (((16 : Int32) * (gI σ 15 v4.toNatClampNeg)) + v4).toNatClampNeg)), (0, .ref (ad 30 0)), (1, .int v1), (2, .long v2), (4, .int v4)]) C (by decide) rfl dX11_nulOf_73 ?_
      refine j_lload C 0 rfl dX11_nulOf_75 ?_
      refine j_lconst (v := 0) C (by decide) dX11_nulOf_77 ?_
      refine j_lcmp_ge (tgt := 87) C dX11_nulOf_79 (by decide) dX11_nulOf_78 (fun hc8 => ?_) (fun hc8 => ?_)
      · replace h := (if_pos hc8).symm.trans h
        exact j_sub [2, 3, 4, 5, 0] rfl (t_X11_nulOf_87 C ih σ v1 v2 v4 ((gL σ 12 (((16 : Int32) * (gI σ 15 v4.toNatClampNeg)) + v4).toNatClampNeg) / q6) h)
      · replace h := (if_neg hc8).symm.trans h
        refine j_lload C 0 rfl dX11_nulOf_82 ?_
        refine j_lneg C dX11_nulOf_84 ?_
        refine j_lstore (L' := [(7, .long (-((gL σ 12 (((16 : Int32) * (gI σ 15 v4.toNatClampNeg)) + v4).toNatClampNeg) / q6))), (5, .long (gL σ 12 (((16 : Int32) * (gI σ 15 v4.toNatClampNeg)) + v4).toNatClampNeg)), (0, .ref (ad 30 0)), (1, .int v1), (2, .long v2), (4, .int v4)]) C (by decide) rfl dX11_nulOf_85 ?_
        exact j_sub [2, 3, 4, 5, 0] rfl (t_X11_nulOf_87 C ih σ v1 v2 v4 (-((gL σ 12 (((16 : Int32) * (gI σ 15 v4.toNatClampNeg)) + v4).toNatClampNeg) / q6)) h)
    · replace h := (if_pos hc3).symm.trans h
      refine j_goto (tgt := 99) C (by decide) dX11_nulOf_25 ?_
      refine j_iinc (v := v4 + (1 : Int32)) (L' := [(4, .int (v4 + (1 : Int32))), (0, .ref (ad 30 0)), (1, .int v1), (2, .long v2)]) C 3 rfl rfl (by decide) rfl dX11_nulOf_99 ?_
      refine j_goto (tgt := 5) C (by decide) dX11_nulOf_102 ?_
      exact j_sub [1, 2, 3, 0] rfl (ih σ v1 v2 (v4 + (1 : Int32)) h)
set_option maxRecDepth 100000 in
set_option maxHeartbeats 4000000 in
theorem t_X11_nulOf_0 {χ : Mem} {T : Nat → Mem} (C : Cx p s m args meth c cX11_nulOf 11 RX11 none COM g) {rr : Mem} (σ : Mem) (a1 : Int32) (h : f_X11_nulOf_0 σ a1 = some rr) : JJ p l e rm_X11_nulOf s m args below meth c 11 g ad (MQ below (PoV g ad χ T (rr)) args s 0 0 (geB g)) χ T σ 0 0 [(0, .ref (ad 30 0)), (1, .int a1)] 0 [] := by
  rw [f_X11_nulOf_0] at h
  refine j_lconst (v := 1) C (by decide) dX11_nulOf_0 ?_
  refine j_lstore_n (L' := [(2, .long (1 : Int64)), (0, .ref (ad 30 0)), (1, .int a1)]) C rfl (by decide) rfl dX11_nulOf_1 ?_
  refine j_iconst (v := 0) C (by decide) dX11_nulOf_2 ?_
  refine j_istore (L' := [(4, .int (0 : Int32)), (2, .long (1 : Int64)), (0, .ref (ad 30 0)), (1, .int a1)]) C (by decide) rfl dX11_nulOf_3 ?_
  exact j_sub [2, 3, 1, 0] rfl (t_X11_nulOf_5 C FU σ a1 (1 : Int64) (0 : Int32) h)
set_option maxRecDepth 100000 in
set_option maxHeartbeats 4000000 in
theorem c_X11_nulOf {l : Launch} {g : Gc} {ad : Nat → Nat → Nat} {χ : Mem} {T : Nat → Mem} {σ : Mem} {a1 : Int32} {rr : Mem} (h : f_X11_nulOf σ a1 = some rr) : Met l yX11_nulOf (WS yX11_nulOf cX11_nulOf 11 none) rm_X11_nulOf (PreW g ad χ T σ [.ref (ad 30 0), .int a1]) (PoV g ad χ T (rr)) 0 0 (geB g) := by
  refine j_metW (by decide) (Nat.le_of_ble_eq_true rfl) fun p e s m below meth c C hname => ?_
  rw [f_X11_nulOf] at h
  exact j_sub [0, 1] rfl (t_X11_nulOf_0 C σ a1 h)
set_option maxRecDepth 100000 in
set_option maxHeartbeats 4000000 in
theorem t_X11_freeColumn_15 {χ : Mem} {T : Nat → Mem} {σ : Mem} (C : Cx p s m args meth c cX11_freeColumn 4 RX11 (some .int) COM g) {rr : Int32} : ∀ (n : Nat) (v1 : Int32) (v2 : Int32) (v3 : Int32) (h : f_X11_freeColumn_15 σ n v1 v2 v3 = some rr), JJ p l e rm_X11_freeColumn s m args below meth c 4 g ad (MQ below (PoI g ad χ T σ rr) args s 0 0 (geB g)) χ T σ 0 0 [(0, .ref (ad 30 0)), (1, .int v1), (2, .int v2), (3, .int v3)] 15 [] := by
  intro n
  induction n with
  | zero => intro  v1 v2 v3  h; cases h
  | succ n ih =>
  intro  v1 v2 v3  h
  rw [f_X11_freeColumn_15] at h
  refine j_iload_n C 3 rfl rfl dX11_freeColumn_15 ?_
  refine j_iload_n C 1 rfl rfl dX11_freeColumn_16 ?_
  refine j_icmp_ge (tgt := 38) C (by decide) dX11_freeColumn_17 (fun hc1 => ?_) (fun hc1 => ?_)
  · replace h := (if_pos hc1).symm.trans h
    refine j_iload_n C 2 rfl rfl dX11_freeColumn_38 ?_
    obtain rfl := Option.some.inj h
    exact j_iret C rfl rfl (Nat.le_refl _) (Nat.le_refl _) dX11_freeColumn_39
  · replace h := (if_neg hc1).symm.trans h
    refine j_aload_n C 0 rfl rfl dX11_freeColumn_20 ?_
    refine j_getG C in_X11 (by decide) cw_30 rfl 6 (by decide) mw_1011 (fun _ h => h) rfl dX11_freeColumn_21 ?_
    refine j_iload_n C 3 rfl rfl dX11_freeColumn_24 ?_
    obtain ⟨hg2, h⟩ := gd_some h
    refine j_zald C (by decide) cw_31_6 hg2 dX11_freeColumn_25 ?_
    refine j_if_ne (tgt := 32) C (by decide) dX11_freeColumn_26 (fun hc3 => ?_) (fun hc3 => ?_)
    · replace h := (if_neg hc3).symm.trans h
      refine j_iinc (v := v3 + (1 : Int32)) (L' := [(3, .int (v3 + (1 : Int32))), (0, .ref (ad 30 0)), (1, .int v1), (2, .int v2)]) C 3 rfl rfl (by decide) rfl dX11_freeColumn_32 ?_
      refine j_goto (tgt := 15) C (by decide) dX11_freeColumn_35 ?_
      exact j_sub [1, 2, 3, 0] rfl (ih v1 v2 (v3 + (1 : Int32)) h)
    · replace h := (if_pos hc3).symm.trans h
      refine j_iinc (v := v2 + (2 : Int32)) (L' := [(2, .int (v2 + (2 : Int32))), (0, .ref (ad 30 0)), (1, .int v1), (3, .int v3)]) C 2 rfl rfl (by decide) rfl dX11_freeColumn_29 ?_
      refine j_iinc (v := v3 + (1 : Int32)) (L' := [(3, .int (v3 + (1 : Int32))), (2, .int (v2 + (2 : Int32))), (0, .ref (ad 30 0)), (1, .int v1)]) C 3 rfl rfl (by decide) rfl dX11_freeColumn_32 ?_
      refine j_goto (tgt := 15) C (by decide) dX11_freeColumn_35 ?_
      exact j_sub [2, 3, 1, 0] rfl (ih v1 (v2 + (2 : Int32)) (v3 + (1 : Int32)) h)
set_option maxRecDepth 100000 in
set_option maxHeartbeats 4000000 in
theorem t_X11_freeColumn_0 {χ : Mem} {T : Nat → Mem} {σ : Mem} (C : Cx p s m args meth c cX11_freeColumn 4 RX11 (some .int) COM g) {rr : Int32} (a1 : Int32) (h : f_X11_freeColumn_0 σ a1 = some rr) : JJ p l e rm_X11_freeColumn s m args below meth c 4 g ad (MQ below (PoI g ad χ T σ rr) args s 0 0 (geB g)) χ T σ 0 0 [(0, .ref (ad 30 0)), (1, .int a1)] 0 [] := by
  rw [f_X11_freeColumn_0] at h
  refine j_aload_n C 0 rfl rfl dX11_freeColumn_0 ?_
  refine j_getG C in_X11 (by decide) cw_30 rfl 6 (by decide) mw_1011 (fun _ h => h) rfl dX11_freeColumn_1 ?_
  refine j_iload_n C 1 rfl rfl dX11_freeColumn_4 ?_
  obtain ⟨hg1, h⟩ := gd_some h
  refine j_zald C (by decide) cw_31_6 hg1 dX11_freeColumn_5 ?_
  refine j_if_eq (tgt := 11) C (by decide) dX11_freeColumn_6 (fun hc2 => ?_) (fun hc2 => ?_)
  · replace h := (if_pos hc2).symm.trans h
    refine j_iconst (v := 0) C (by decide) dX11_freeColumn_11 ?_
    refine j_istore_n (L' := [(2, .int (0 : Int32)), (0, .ref (ad 30 0)), (1, .int a1)]) C rfl (by decide) rfl dX11_freeColumn_12 ?_
    refine j_iconst (v := 0) C (by decide) dX11_freeColumn_13 ?_
    refine j_istore_n (L' := [(3, .int (0 : Int32)), (2, .int (0 : Int32)), (0, .ref (ad 30 0)), (1, .int a1)]) C rfl (by decide) rfl dX11_freeColumn_14 ?_
    exact j_sub [2, 3, 1, 0] rfl (t_X11_freeColumn_15 C FU a1 (0 : Int32) (0 : Int32) h)
  · replace h := (if_neg hc2).symm.trans h
    refine j_iconst (v := -1) C (by decide) dX11_freeColumn_9 ?_
    obtain rfl := Option.some.inj h
    exact j_iret C rfl rfl (Nat.le_refl _) (Nat.le_refl _) dX11_freeColumn_10
set_option maxRecDepth 100000 in
set_option maxHeartbeats 4000000 in
theorem c_X11_freeColumn {l : Launch} {g : Gc} {ad : Nat → Nat → Nat} {χ : Mem} {T : Nat → Mem} {σ : Mem} {a1 : Int32} {rr : Int32} (h : f_X11_freeColumn σ a1 = some rr) : Met l yX11_freeColumn (WS yX11_freeColumn cX11_freeColumn 4 (some .int)) rm_X11_freeColumn (PreW g ad χ T σ [.ref (ad 30 0), .int a1]) (PoI g ad χ T σ rr) 0 0 (geB g) := by
  refine j_metW (by decide) (Nat.le_of_ble_eq_true rfl) fun p e s m below meth c C hname => ?_
  rw [f_X11_freeColumn] at h
  exact j_sub [0, 1] rfl (t_X11_freeColumn_0 C a1 h)
set_option maxRecDepth 100000 in
set_option maxHeartbeats 4000000 in
theorem t_X11_freePins_4 {χ : Mem} {T : Nat → Mem} {σ : Mem} (C : Cx p s m args meth c cX11_freePins 3 RX11 (some .int) COM g) {rr : Int32} : ∀ (n : Nat) (v1 : Int32) (v2 : Int32) (h : f_X11_freePins_4 σ n v1 v2 = some rr), JJ p l e rm_X11_freePins s m args below meth c 3 g ad (MQ below (PoI g ad χ T σ rr) args s 0 0 (geB g)) χ T σ 0 0 [(0, .ref (ad 30 0)), (1, .int v1), (2, .int v2)] 4 [] := by
  intro n
  induction n with
  | zero => intro  v1 v2  h; cases h
  | succ n ih =>
  intro  v1 v2  h
  rw [f_X11_freePins_4] at h
  refine j_iload_n C 2 rfl rfl dX11_freePins_4 ?_
  refine j_aload_n C 0 rfl rfl dX11_freePins_5 ?_
  refine j_getG C in_X11 (by decide) cw_30 rfl 0 (by decide) mw_1005 (fun _ h => h) rfl dX11_freePins_6 ?_
  refine j_icmp_ge (tgt := 30) C (by decide) dX11_freePins_9 (fun hc1 => ?_) (fun hc1 => ?_)
  · replace h := (if_pos hc1).symm.trans h
    refine j_iload_n C 1 rfl rfl dX11_freePins_30 ?_
    obtain rfl := Option.some.inj h
    exact j_iret C rfl rfl (Nat.le_refl _) (Nat.le_refl _) dX11_freePins_31
  · replace h := (if_neg hc1).symm.trans h
    refine j_aload_n C 0 rfl rfl dX11_freePins_12 ?_
    refine j_getG C in_X11 (by decide) cw_30 rfl 6 (by decide) mw_1011 (fun _ h => h) rfl dX11_freePins_13 ?_
    refine j_iload_n C 2 rfl rfl dX11_freePins_16 ?_
    obtain ⟨hg2, h⟩ := gd_some h
    refine j_zald C (by decide) cw_31_6 hg2 dX11_freePins_17 ?_
    refine j_if_ne (tgt := 24) C (by decide) dX11_freePins_18 (fun hc3 => ?_) (fun hc3 => ?_)
    · replace h := (if_neg hc3).symm.trans h
      refine j_iinc (v := v2 + (1 : Int32)) (L' := [(2, .int (v2 + (1 : Int32))), (0, .ref (ad 30 0)), (1, .int v1)]) C 2 rfl rfl (by decide) rfl dX11_freePins_24 ?_
      refine j_goto (tgt := 4) C (by decide) dX11_freePins_27 ?_
      exact j_sub [1, 2, 0] rfl (ih v1 (v2 + (1 : Int32)) h)
    · replace h := (if_pos hc3).symm.trans h
      refine j_iinc (v := v1 + (1 : Int32)) (L' := [(1, .int (v1 + (1 : Int32))), (0, .ref (ad 30 0)), (2, .int v2)]) C 1 rfl rfl (by decide) rfl dX11_freePins_21 ?_
      refine j_iinc (v := v2 + (1 : Int32)) (L' := [(2, .int (v2 + (1 : Int32))), (1, .int (v1 + (1 : Int32))), (0, .ref (ad 30 0))]) C 2 rfl rfl (by decide) rfl dX11_freePins_24 ?_
      refine j_goto (tgt := 4) C (by decide) dX11_freePins_27 ?_
      exact j_sub [2, 1, 0] rfl (ih (v1 + (1 : Int32)) (v2 + (1 : Int32)) h)
set_option maxRecDepth 100000 in
set_option maxHeartbeats 4000000 in
theorem t_X11_freePins_0 {χ : Mem} {T : Nat → Mem} {σ : Mem} (C : Cx p s m args meth c cX11_freePins 3 RX11 (some .int) COM g) {rr : Int32} (h : f_X11_freePins_0 σ = some rr) : JJ p l e rm_X11_freePins s m args below meth c 3 g ad (MQ below (PoI g ad χ T σ rr) args s 0 0 (geB g)) χ T σ 0 0 [(0, .ref (ad 30 0))] 0 [] := by
  rw [f_X11_freePins_0] at h
  refine j_iconst (v := 0) C (by decide) dX11_freePins_0 ?_
  refine j_istore_n (L' := [(1, .int (0 : Int32)), (0, .ref (ad 30 0))]) C rfl (by decide) rfl dX11_freePins_1 ?_
  refine j_iconst (v := 0) C (by decide) dX11_freePins_2 ?_
  refine j_istore_n (L' := [(2, .int (0 : Int32)), (1, .int (0 : Int32)), (0, .ref (ad 30 0))]) C rfl (by decide) rfl dX11_freePins_3 ?_
  exact j_sub [2, 1, 0] rfl (t_X11_freePins_4 C FU (0 : Int32) (0 : Int32) h)
set_option maxRecDepth 100000 in
set_option maxHeartbeats 4000000 in
theorem c_X11_freePins {l : Launch} {g : Gc} {ad : Nat → Nat → Nat} {χ : Mem} {T : Nat → Mem} {σ : Mem} {rr : Int32} (h : f_X11_freePins σ = some rr) : Met l yX11_freePins (WS yX11_freePins cX11_freePins 3 (some .int)) rm_X11_freePins (PreW g ad χ T σ [.ref (ad 30 0)]) (PoI g ad χ T σ rr) 0 0 (geB g) := by
  refine j_metW (by decide) (Nat.le_of_ble_eq_true rfl) fun p e s m below meth c C hname => ?_
  rw [f_X11_freePins] at h
  exact j_sub [0] rfl (t_X11_freePins_0 C h)
set_option maxRecDepth 100000 in
set_option maxHeartbeats 4000000 in
theorem t_X11_motionRow_105 {χ : Mem} {T : Nat → Mem} (C : Cx p s m args meth c cX11_motionRow 5 RX11 none COM g) {rr : Mem} (σ : Mem) (v1 : Int32) (v2 : Int32) (v4 : Int32) (h : f_X11_motionRow_105 σ v1 v2 v4 = some rr) : JJ p l e rm_X11_motionRow s m args below meth c 5 g ad (MQ below (PoV g ad χ T (rr)) args s 0 0 (geB g)) χ T σ 0 0 [(0, .ref (ad 30 0)), (1, .int v1), (2, .int v2), (4, .int v4)] 105 [] := by
  rw [f_X11_motionRow_105] at h
  refine j_iload C 3 rfl dX11_motionRow_105 ?_
  refine j_iconst (v := -1) C (by decide) dX11_motionRow_107 ?_
  refine j_icmp_eq (tgt := 171) C (by decide) dX11_motionRow_108 (fun hc1 => ?_) (fun hc1 => ?_)
  · replace h := (if_pos hc1).symm.trans h
    refine j_aload_n C 0 rfl rfl dX11_motionRow_171 ?_
    refine j_dup C rfl dX11_motionRow_172 ?_
    refine j_getG C in_X11 (by decide) cw_30 rfl 13 (by decide) mw_1018 (fun _ h => h) rfl dX11_motionRow_173 ?_
    refine j_iconst (v := 1) C (by decide) dX11_motionRow_176 ?_
    refine j_iadd C dX11_motionRow_177 ?_
    refine j_putI C in_X11 tyX11_ok nmX11 rfl 13 (by decide) (by decide) (po_M_rows ((gI σ 13 0) + (1 : Int32))) mw_1018 (fun _ h => h) rfl (tyX11_ok 13 (by decide)) (Nat.le_of_ble_eq_true rfl) dX11_motionRow_178 ?_
    obtain rfl := Option.some.inj h
    exact j_vret C rfl (Nat.le_refl _) (Nat.le_refl _) dX11_motionRow_181
  · replace h := (if_neg hc1).symm.trans h
    refine j_aload_n C 0 rfl rfl dX11_motionRow_111 ?_
    refine j_getG C in_X11 (by decide) cw_30 rfl 12 (by decide) mw_1017 (fun _ h => h) rfl dX11_motionRow_112 ?_
    refine j_bipush (v := 16) C (by decide) dX11_motionRow_115 ?_
    refine j_aload_n C 0 rfl rfl dX11_motionRow_117 ?_
    refine j_getG C in_X11 (by decide) cw_30 rfl 13 (by decide) mw_1018 (fun _ h => h) rfl dX11_motionRow_118 ?_
    refine j_imul C dX11_motionRow_121 ?_
    refine j_iload C 3 rfl dX11_motionRow_122 ?_
    refine j_iadd C dX11_motionRow_124 ?_
    refine j_aload_n C 0 rfl rfl dX11_motionRow_125 ?_
    refine j_getG C in_X11 (by decide) cw_30 rfl 2 (by decide) mw_1007 (fun _ h => h) rfl dX11_motionRow_126 ?_
    refine j_iload_n C 2 rfl rfl dX11_motionRow_129 ?_
    obtain ⟨hg2, h⟩ := gd_some h
    refine j_iald C (by decide) cw_31_2 hg2 dX11_motionRow_130 ?_
    refine j_aload_n C 0 rfl rfl dX11_motionRow_131 ?_
    refine j_getG C in_X11 (by decide) cw_30 rfl 2 (by decide) mw_1007 (fun _ h => h) rfl dX11_motionRow_132 ?_
    refine j_iload_n C 1 rfl rfl dX11_motionRow_135 ?_
    obtain ⟨hg3, h⟩ := gd_some h
    refine j_iald C (by decide) cw_31_2 hg3 dX11_motionRow_136 ?_
    refine j_isub C dX11_motionRow_137 ?_
    refine j_i2l C dX11_motionRow_138 ?_
    obtain ⟨hg4, h⟩ := gd_some h
    refine j_lastP C (by decide) (po_M_m ((((16 : Int32) * (gI σ 13 0)) + v4).toNatClampNeg) (((gI σ 2 v2.toNatClampNeg) - (gI σ 2 v1.toNatClampNeg)).toInt64)) hg4 dX11_motionRow_139 ?_
    refine j_aload_n C 0 rfl rfl dX11_motionRow_140 ?_
    refine j_getG C in_X11 (by decide) cw_30 rfl 12 (by decide) mw_1017 (fun _ h => h) rfl dX11_motionRow_141 ?_
    refine j_bipush (v := 16) C (by decide) dX11_motionRow_144 ?_
    refine j_aload_n C 0 rfl rfl dX11_motionRow_146 ?_
    refine j_getG C in_X11 (by decide) cw_30 rfl 13 (by decide) mw_1018 (fun _ h => h) rfl dX11_motionRow_147 ?_
    refine j_imul C dX11_motionRow_150 ?_
    refine j_iload C 3 rfl dX11_motionRow_151 ?_
    refine j_iadd C dX11_motionRow_153 ?_
    refine j_iconst (v := 1) C (by decide) dX11_motionRow_154 ?_
    refine j_iadd C dX11_motionRow_155 ?_
    refine j_aload_n C 0 rfl rfl dX11_motionRow_156 ?_
    refine j_getG C in_X11 (by decide) cw_30 rfl 3 (by decide) mw_1008 (fun _ h => h) rfl dX11_motionRow_157 ?_
    refine j_iload_n C 2 rfl rfl dX11_motionRow_160 ?_
    refine j_iald C (by decide) cw_31_3 hg2 dX11_motionRow_161 ?_
    refine j_aload_n C 0 rfl rfl dX11_motionRow_162 ?_
    refine j_getG C in_X11 (by decide) cw_30 rfl 3 (by decide) mw_1008 (fun _ h => h) rfl dX11_motionRow_163 ?_
    refine j_iload_n C 1 rfl rfl dX11_motionRow_166 ?_
    refine j_iald C (by decide) cw_31_3 hg3 dX11_motionRow_167 ?_
    refine j_isub C dX11_motionRow_168 ?_
    refine j_i2l C dX11_motionRow_169 ?_
    obtain ⟨hg5, h⟩ := gd_some h
    refine j_lastP C (by decide) (po_M_m (((((16 : Int32) * (gI (wL σ 12 ((((16 : Int32) * (gI σ 13 0)) + v4).toNatClampNeg) (((gI σ 2 v2.toNatClampNeg) - (gI σ 2 v1.toNatClampNeg)).toInt64)) 13 0)) + v4) + (1 : Int32)).toNatClampNeg) (((gI (wL σ 12 ((((16 : Int32) * (gI σ 13 0)) + v4).toNatClampNeg) (((gI σ 2 v2.toNatClampNeg) - (gI σ 2 v1.toNatClampNeg)).toInt64)) 3 v2.toNatClampNeg) - (gI (wL σ 12 ((((16 : Int32) * (gI σ 13 0)) + v4).toNatClampNeg) (((gI σ 2 v2.toNatClampNeg) - (gI σ 2 v1.toNatClampNeg)).toInt64)) 3 v1.toNatClampNeg)).toInt64)) hg5 dX11_motionRow_170 ?_
    refine j_aload_n C 0 rfl rfl dX11_motionRow_171 ?_
    refine j_dup C rfl dX11_motionRow_172 ?_
    refine j_getG C in_X11 (by decide) cw_30 rfl 13 (by decide) mw_1018 (fun _ h => h) rfl dX11_motionRow_173 ?_
    refine j_iconst (v := 1) C (by decide) dX11_motionRow_176 ?_
    refine j_iadd C dX11_motionRow_177 ?_
    refine j_putI C in_X11 tyX11_ok nmX11 rfl 13 (by decide) (by decide) (po_M_rows ((gI (wL (wL σ 12 ((((16 : Int32) * (gI σ 13 0)) + v4).toNatClampNeg) (((gI σ 2 v2.toNatClampNeg) - (gI σ 2 v1.toNatClampNeg)).toInt64)) 12 (((((16 : Int32) * (gI (wL σ 12 ((((16 : Int32) * (gI σ 13 0)) + v4).toNatClampNeg) (((gI σ 2 v2.toNatClampNeg) - (gI σ 2 v1.toNatClampNeg)).toInt64)) 13 0)) + v4) + (1 : Int32)).toNatClampNeg) (((gI (wL σ 12 ((((16 : Int32) * (gI σ 13 0)) + v4).toNatClampNeg) (((gI σ 2 v2.toNatClampNeg) - (gI σ 2 v1.toNatClampNeg)).toInt64)) 3 v2.toNatClampNeg) - (gI (wL σ 12 ((((16 : Int32) * (gI σ 13 0)) + v4).toNatClampNeg) (((gI σ 2 v2.toNatClampNeg) - (gI σ 2 v1.toNatClampNeg)).toInt64)) 3 v1.toNatClampNeg)).toInt64)) 13 0) + (1 : Int32))) mw_1018 (fun _ h => h) rfl (tyX11_ok 13 (by decide)) (Nat.le_of_ble_eq_true rfl) dX11_motionRow_178 ?_
    obtain rfl := Option.some.inj h
    exact j_vret C rfl (Nat.le_refl _) (Nat.le_refl _) dX11_motionRow_181
set_option maxRecDepth 100000 in
set_option maxHeartbeats 4000000 in
theorem t_X11_motionRow_2 {χ : Mem} {T : Nat → Mem} (C : Cx p s m args meth c cX11_motionRow 5 RX11 none COM g) {rr : Mem} : ∀ (n : Nat) (σ : Mem) (v1 : Int32) (v2 : Int32) (v3 : Int32) (h : f_X11_motionRow_2 n σ v1 v2 v3 = some rr), JJ p l e rm_X11_motionRow s m args below meth c 5 g ad (MQ below (PoV g ad χ T (rr)) args s 0 0 (geB g)) χ T σ 0 0 [(0, .ref (ad 30 0)), (1, .int v1), (2, .int v2), (3, .int v3)] 2 [] := by
  intro n
  induction n with
  | zero => intro  σ v1 v2 v3  h; cases h
  | succ n ih =>
  intro  σ v1 v2 v3  h
  rw [f_X11_motionRow_2] at h
  refine j_iload_n C 3 rfl rfl dX11_motionRow_2 ?_
  refine j_bipush (v := 16) C (by decide) dX11_motionRow_3 ?_
  refine j_icmp_ge (tgt := 29) C (by decide) dX11_motionRow_5 (fun hc1 => ?_) (fun hc1 => ?_)
  · replace h := (if_pos hc1).symm.trans h
    refine j_aload_n C 0 rfl rfl dX11_motionRow_29 ?_
    refine j_iload_n C 1 rfl rfl dX11_motionRow_30 ?_
    obtain ⟨q2, hq2, h⟩ := bi_some h
    refine j_callVi (As := [.int v1]) (rest := []) C (c_X11_freeColumn hq2) (cwV 1 C.ts (good_V mw_1161 mw_1163 mw_42 mw_73 mw_1164) rfl rfl rfl (by decide +kernel) ⟨Nat.le_of_ble_eq_true rfl, Nat.le_of_ble_eq_true rfl⟩) (fun H hW => CW.rv C.k hW (by decide) cw_30 rfl) rfl rfl (Nat.le_of_ble_eq_true rfl) dX11_motionRow_31 ⟨Nat.zero_le _, Nat.zero_le _⟩ ?_
    refine j_istore_n (L' := [(3, .int q2), (0, .ref (ad 30 0)), (1, .int v1), (2, .int v2)]) C rfl (by decide) rfl dX11_motionRow_34 ?_
    refine j_aload_n C 1 rfl rfl dX11_motionRow_35 ?_
    refine j_iload_n C 3 rfl rfl dX11_motionRow_36 ?_
    obtain ⟨q3, hq3, h⟩ := bi_some h
    refine j_callVi (As := [.int v2]) (rest := []) C (c_X11_freeColumn hq3) (cwV 1 C.ts (good_V mw_1161 mw_1163 mw_42 mw_73 mw_1164) rfl rfl rfl (by decide +kernel) ⟨Nat.le_of_ble_eq_true rfl, Nat.le_of_ble_eq_true rfl⟩) (fun H hW => CW.rv C.k hW (by decide) cw_30 rfl) rfl rfl (Nat.le_of_ble_eq_true rfl) dX11_motionRow_37 ⟨Nat.zero_le _, Nat.zero_le _⟩ ?_
    refine j_istore (L' := [(4, .int q3), (3, .int q2), (0, .ref (ad 30 0)), (1, .int v1), (2, .int v2)]) C (by decide) rfl dX11_motionRow_40 ?_
    refine j_iload_n C 1 rfl rfl dX11_motionRow_42 ?_
    refine j_iconst (v := -1) C (by decide) dX11_motionRow_43 ?_
    refine j_icmp_eq (tgt := 105) C (by decide) dX11_motionRow_44 (fun hc4 => ?_) (fun hc4 => ?_)
    · replace h := (if_pos hc4).symm.trans h
      exact j_sub [2, 3, 4, 0] rfl (t_X11_motionRow_105 C σ v1 v2 q3 h)
    · replace h := (if_neg hc4).symm.trans h
      refine j_aload_n C 2 rfl rfl dX11_motionRow_47 ?_
      refine j_getG C in_X11 (by decide) cw_30 rfl 12 (by decide) mw_1017 (fun _ h => h) rfl dX11_motionRow_48 ?_
      refine j_bipush (v := 16) C (by decide) dX11_motionRow_51 ?_
      refine j_aload_n C 2 rfl rfl dX11_motionRow_53 ?_
      refine j_getG C in_X11 (by decide) cw_30 rfl 13 (by decide) mw_1018 (fun _ h => h) rfl dX11_motionRow_54 ?_
      refine j_imul C dX11_motionRow_57 ?_
      refine j_iload_n C 1 rfl rfl dX11_motionRow_58 ?_
      refine j_iadd C dX11_motionRow_59 ?_
      refine j_aload_n C 2 rfl rfl dX11_motionRow_60 ?_
      refine j_getG C in_X11 (by decide) cw_30 rfl 2 (by decide) mw_1007 (fun _ h => h) rfl dX11_motionRow_61 ?_
      refine j_iload_n C 3 rfl rfl dX11_motionRow_64 ?_
      obtain ⟨hg5, h⟩ := gd_some h
      refine j_iald C (by decide) cw_31_2 hg5 dX11_motionRow_65 ?_
      refine j_aload_n C 2 rfl rfl dX11_motionRow_66 ?_
      refine j_getG C in_X11 (by decide) cw_30 rfl 2 (by decide) mw_1007 (fun _ h => h) rfl dX11_motionRow_67 ?_
      refine j_iload_n C 4 rfl rfl dX11_motionRow_70 ?_
      obtain ⟨hg6, h⟩ := gd_some h
      refine j_iald C (by decide) cw_31_2 hg6 dX11_motionRow_71 ?_
      refine j_isub C dX11_motionRow_72 ?_
      refine j_i2l C dX11_motionRow_73 ?_
      obtain ⟨hg7, h⟩ := gd_some h
      refine j_lastP C (by decide) (po_M_m ((((16 : Int32) * (gI σ 13 0)) + q2).toNatClampNeg) (((gI σ 2 v1.toNatClampNeg) - (gI σ 2 v2.toNatClampNeg)).toInt64)) hg7 dX11_motionRow_74 ?_
      refine j_aload_n C 2 rfl rfl dX11_motionRow_75 ?_
      refine j_getG C in_X11 (by decide) cw_30 rfl 12 (by decide) mw_1017 (fun _ h => h) rfl dX11_motionRow_76 ?_
      refine j_bipush (v := 16) C (by decide) dX11_motionRow_79 ?_
      refine j_aload_n C 2 rfl rfl dX11_motionRow_81 ?_
      refine j_getG C in_X11 (by decide) cw_30 rfl 13 (by decide) mw_1018 (fun _ h => h) rfl dX11_motionRow_82 ?_
      refine j_imul C dX11_motionRow_85 ?_
      refine j_iload_n C 1 rfl rfl dX11_motionRow_86 ?_
      refine j_iadd C dX11_motionRow_87 ?_
      refine j_iconst (v := 1) C (by decide) dX11_motionRow_88 ?_
      refine j_iadd C dX11_motionRow_89 ?_
      refine j_aload_n C 2 rfl rfl dX11_motionRow_90 ?_
      refine j_getG C in_X11 (by decide) cw_30 rfl 3 (by decide) mw_1008 (fun _ h => h) rfl dX11_motionRow_91 ?_
      refine j_iload_n C 3 rfl rfl dX11_motionRow_94 ?_
      refine j_iald C (by decide) cw_31_3 hg5 dX11_motionRow_95 ?_
      refine j_aload_n C 2 rfl rfl dX11_motionRow_96 ?_
      refine j_getG C in_X11 (by decide) cw_30 rfl 3 (by decide) mw_1008 (fun _ h => h) rfl dX11_motionRow_97 ?_
      refine j_iload_n C 4 rfl rfl dX11_motionRow_100 ?_
      refine j_iald C (by decide) cw_31_3 hg6 dX11_motionRow_101 ?_
      refine j_isub C dX11_motionRow_102 ?_
      refine j_i2l C dX11_motionRow_103 ?_
      obtain ⟨hg8, h⟩ := gd_some h
      refine j_lastP C (by decide) (po_M_m (((((16 : Int32) * (gI (wL σ 12 ((((16 : Int32) * (gI σ 13 0)) + q2).toNatClampNeg) (((gI σ 2 v1.toNatClampNeg) - (gI σ 2 v2.toNatClampNeg)).toInt64)) 13 0)) + q2) + (1 : Int32)).toNatClampNeg) (((gI (wL σ 12 ((((16 : Int32) * (gI σ 13 0)) + q2).toNatClampNeg) (((gI σ 2 v1.toNatClampNeg) - (gI σ 2 v2.toNatClampNeg)).toInt64)) 3 v1.toNatClampNeg) - (gI (wL σ 12 ((((16 : Int32) * (gI σ 13 0)) + q2).toNatClampNeg) (((gI σ 2 v1.toNatClampNeg) - (gI σ 2 v2.toNatClampNeg)).toInt64)) 3 v2.toNatClampNeg)).toInt64)) hg8 dX11_motionRow_104 ?_
      exact j_sub [2, 3, 4, 0] rfl (t_X11_motionRow_105 C (wL (wL σ 12 ((((16 : Int32) * (gI σ 13 0)) + q2).toNatClampNeg) (((gI σ 2 v1.toNatClampNeg) - (gI σ 2 v2.toNatClampNeg)).toInt64)) 12 (((((16 : Int32) * (gI (wL σ 12 ((((16 : Int32) * (gI σ 13 0)) + q2).toNatClampNeg) (((gI σ 2 v1.toNatClampNeg) - (gI σ 2 v2.toNatClampNeg)).toInt64)) 13 0)) + q2) + (1 : Int32)).toNatClampNeg) (((gI (wL σ 12 ((((16 : Int32) * (gI σ 13 0)) + q2).toNatClampNeg) (((gI σ 2 v1.toNatClampNeg) - (gI σ 2 v2.toNatClampNeg)).toInt64)) 3 v1.toNatClampNeg) - (gI (wL σ 12 ((((16 : Int32) * (gI σ 13 0)) + q2).toNatClampNeg) (((gI σ 2 v1.toNatClampNeg) - (gI σ 2 v2.toNatClampNeg)).toInt64)) 3 v2.toNatClampNeg)).toInt64)) v1 v2 q3 h)
  · replace h := (if_neg hc1).symm.trans h
    refine j_aload_n C 0 rfl rfl dX11_motionRow_8 ?_
    refine j_getG C in_X11 (by decide) cw_30 rfl 12 (by decide) mw_1017 (fun _ h => h) rfl dX11_motionRow_9 ?_
    refine j_bipush (v := 16) C (by decide) dX11_motionRow_12 ?_
    refine j_aload_n C 0 rfl rfl dX11_motionRow_14 ?_
    refine j_getG C in_X11 (by decide) cw_30 rfl 13 (by decide) mw_1018 (fun _ h => h) rfl dX11_motionRow_15 ?_
    refine j_imul C dX11_motionRow_18 ?_
    refine j_iload_n C 3 rfl rfl dX11_motionRow_19 ?_
    refine j_iadd C dX11_motionRow_20 ?_
    refine j_lconst (v := 0) C (by decide) dX11_motionRow_21 ?_
    obtain ⟨hg9, h⟩ := gd_some h
    refine j_lastP C (by decide) (po_M_m ((((16 : Int32) * (gI σ 13 0)) + v3).toNatClampNeg) (0 : Int64)) hg9 dX11_motionRow_22 ?_
    refine j_iinc (v := v3 + (1 : Int32)) (L' := [(3, .int (v3 + (1 : Int32))), (0, .ref (ad 30 0)), (1, .int v1), (2, .int v2)]) C 3 rfl rfl (by decide) rfl dX11_motionRow_23 ?_
    refine j_goto (tgt := 2) C (by decide) dX11_motionRow_26 ?_
    exact j_sub [1, 2, 3, 0] rfl (ih (wL σ 12 ((((16 : Int32) * (gI σ 13 0)) + v3).toNatClampNeg) (0 : Int64)) v1 v2 (v3 + (1 : Int32)) h)
set_option maxRecDepth 100000 in
set_option maxHeartbeats 4000000 in
theorem t_X11_motionRow_0 {χ : Mem} {T : Nat → Mem} (C : Cx p s m args meth c cX11_motionRow 5 RX11 none COM g) {rr : Mem} (σ : Mem) (a1 : Int32) (a2 : Int32) (h : f_X11_motionRow_0 σ a1 a2 = some rr) : JJ p l e rm_X11_motionRow s m args below meth c 5 g ad (MQ below (PoV g ad χ T (rr)) args s 0 0 (geB g)) χ T σ 0 0 [(0, .ref (ad 30 0)), (1, .int a1), (2, .int a2)] 0 [] := by
  rw [f_X11_motionRow_0] at h
  refine j_iconst (v := 0) C (by decide) dX11_motionRow_0 ?_
  refine j_istore_n (L' := [(3, .int (0 : Int32)), (0, .ref (ad 30 0)), (1, .int a1), (2, .int a2)]) C rfl (by decide) rfl dX11_motionRow_1 ?_
  exact j_sub [1, 2, 3, 0] rfl (t_X11_motionRow_2 C FU σ a1 a2 (0 : Int32) h)
set_option maxRecDepth 100000 in
set_option maxHeartbeats 4000000 in
theorem c_X11_motionRow {l : Launch} {g : Gc} {ad : Nat → Nat → Nat} {χ : Mem} {T : Nat → Mem} {σ : Mem} {a1 : Int32} {a2 : Int32} {rr : Mem} (h : f_X11_motionRow σ a1 a2 = some rr) : Met l yX11_motionRow (WS yX11_motionRow cX11_motionRow 5 none) rm_X11_motionRow (PreW g ad χ T σ [.ref (ad 30 0), .int a1, .int a2]) (PoV g ad χ T (rr)) 0 0 (geB g) := by
  refine j_metW (by decide) (Nat.le_of_ble_eq_true rfl) fun p e s m below meth c C hname => ?_
  rw [f_X11_motionRow] at h
  exact j_sub [0, 1, 2] rfl (t_X11_motionRow_0 C σ a1 a2 h)
set_option maxRecDepth 100000 in
set_option maxHeartbeats 4000000 in
theorem t_X11_motionsOf_isIn_17 {χ : Mem} {T : Nat → Mem} (C : Cx p s m args meth c cX11_motionsOf 3 RX11 (some .int) COM g) {rr : Mem × Int32} : ∀ (n : Nat) (σ : Mem) (v2 : Int32) (h : f_X11_motionsOf_isIn_17 n σ v2 = some rr), JJ p l e rm_X11_motionsOf_isIn s m args below meth c 3 g ad (MQ below (PoI g ad χ T (rr.1) rr.2) args s 0 0 (geB g)) χ T σ 0 0 [(0, .ref (ad 30 0)), (1, .ref (ad 31 11)), (2, .int v2)] 17 [] := by
  intro n
  induction n with
  | zero => intro  σ v2  h; cases h
  | succ n ih =>
  intro  σ v2  h
  rw [f_X11_motionsOf_isIn_17] at h
  refine j_iload_n C 2 rfl rfl dX11_motionsOf_17 ?_
  refine j_aload_n C 0 rfl rfl dX11_motionsOf_18 ?_
  refine j_getG C in_X11 (by decide) cw_30 rfl 1 (by decide) mw_1006 (fun _ h => h) rfl dX11_motionsOf_19 ?_
  refine j_icmp_ge (tgt := 53) C (by decide) dX11_motionsOf_22 (fun hc1 => ?_) (fun hc1 => ?_)
  · replace h := (if_pos hc1).symm.trans h
    refine j_aload_n C 0 rfl rfl dX11_motionsOf_53 ?_
    refine j_getG C in_X11 (by decide) cw_30 rfl 14 (by decide) mw_1019 (fun _ h => h) rfl dX11_motionsOf_54 ?_
    refine j_aload_n C 0 rfl rfl dX11_motionsOf_57 ?_
    refine j_aload_n C 0 rfl rfl dX11_motionsOf_58 ?_
    refine j_getG C in_X11 (by decide) cw_30 rfl 14 (by decide) mw_1019 (fun _ h => h) rfl dX11_motionsOf_59 ?_
    obtain ⟨q2, hq2, h⟩ := bi_some h
    refine j_callVi (As := [.int (gI σ 14 0)]) (rest := [.int (gI σ 14 0)]) C (c_X11_steps hq2) (cwV 1 C.ts (good_V mw_1165 mw_1167 mw_43 mw_73 mw_1168) rfl rfl rfl (by decide +kernel) ⟨Nat.le_of_ble_eq_true rfl, Nat.le_of_ble_eq_true rfl⟩) (fun H hW => CW.rv C.k hW (by decide) cw_30 rfl) rfl rfl (Nat.le_of_ble_eq_true rfl) dX11_motionsOf_62 ⟨Nat.zero_le _, Nat.zero_le _⟩ ?_
    refine j_isub C dX11_motionsOf_65 ?_
    obtain rfl := Option.some.inj h
    exact j_iret C rfl rfl (Nat.le_refl _) (Nat.le_refl _) dX11_motionsOf_66
  · replace h := (if_neg hc1).symm.trans h
    refine j_aload_n C 1 rfl rfl dX11_motionsOf_25 ?_
    refine j_iload_n C 2 rfl rfl dX11_motionsOf_26 ?_
    obtain ⟨hg3, h⟩ := gd_some h
    refine j_zald C (by decide) cw_31_11 hg3 dX11_motionsOf_27 ?_
    refine j_if_eq (tgt := 47) C (by decide) dX11_motionsOf_28 (fun hc4 => ?_) (fun hc4 => ?_)
    · replace h := (if_pos hc4).symm.trans h
      refine j_iinc (v := v2 + (1 : Int32)) (L' := [(2, .int (v2 + (1 : Int32))), (0, .ref (ad 30 0)), (1, .ref (ad 31 11))]) C 2 rfl rfl (by decide) rfl dX11_motionsOf_47 ?_
      refine j_goto (tgt := 17) C (by decide) dX11_motionsOf_50 ?_
      exact j_sub [1, 2, 0] rfl (ih σ (v2 + (1 : Int32)) h)
    · replace h := (if_neg hc4).symm.trans h
      refine j_aload_n C 0 rfl rfl dX11_motionsOf_31 ?_
      refine j_aload_n C 0 rfl rfl dX11_motionsOf_32 ?_
      refine j_getG C in_X11 (by decide) cw_30 rfl 8 (by decide) mw_1013 (fun _ h => h) rfl dX11_motionsOf_33 ?_
      refine j_iload_n C 2 rfl rfl dX11_motionsOf_36 ?_
      refine j_iald C (by decide) cw_31_8 hg3 dX11_motionsOf_37 ?_
      refine j_aload_n C 0 rfl rfl dX11_motionsOf_38 ?_
      refine j_getG C in_X11 (by decide) cw_30 rfl 9 (by decide) mw_1014 (fun _ h => h) rfl dX11_motionsOf_39 ?_
      refine j_iload_n C 2 rfl rfl dX11_motionsOf_42 ?_
      refine j_iald C (by decide) cw_31_9 hg3 dX11_motionsOf_43 ?_
      obtain ⟨q5, hq5, h⟩ := bi_some h
      refine j_callVv (As := [.int (gI σ 8 v2.toNatClampNeg), .int (gI σ 9 v2.toNatClampNeg)]) (rest := []) C (c_X11_motionRow hq5) (cwV 2 C.ts (good_V mw_1157 mw_1159 mw_41 mw_73 mw_1160) rfl rfl rfl (by decide +kernel) ⟨Nat.le_of_ble_eq_true rfl, Nat.le_of_ble_eq_true rfl⟩) (fun H hW => CW.rv C.k hW (by decide) cw_30 rfl) rfl rfl (Nat.le_of_ble_eq_true rfl) dX11_motionsOf_44 ⟨Nat.zero_le _, Nat.zero_le _⟩ ?_
      refine j_iinc (v := v2 + (1 : Int32)) (L' := [(2, .int (v2 + (1 : Int32))), (0, .ref (ad 30 0)), (1, .ref (ad 31 11))]) C 2 rfl rfl (by decide) rfl dX11_motionsOf_47 ?_
      refine j_goto (tgt := 17) C (by decide) dX11_motionsOf_50 ?_
      exact j_sub [1, 2, 0] rfl (ih q5 (v2 + (1 : Int32)) h)
set_option maxRecDepth 100000 in
set_option maxHeartbeats 4000000 in
theorem t_X11_motionsOf_isIn_0 {χ : Mem} {T : Nat → Mem} (C : Cx p s m args meth c cX11_motionsOf 3 RX11 (some .int) COM g) {rr : Mem × Int32} (σ : Mem) (h : f_X11_motionsOf_isIn_0 σ = some rr) : JJ p l e rm_X11_motionsOf_isIn s m args below meth c 3 g ad (MQ below (PoI g ad χ T (rr.1) rr.2) args s 0 0 (geB g)) χ T σ 0 0 [(0, .ref (ad 30 0)), (1, .ref (ad 31 11))] 0 [] := by
  rw [f_X11_motionsOf_isIn_0] at h
  refine j_aload_n C 0 rfl rfl dX11_motionsOf_0 ?_
  refine j_iconst (v := 0) C (by decide) dX11_motionsOf_1 ?_
  refine j_putI C in_X11 tyX11_ok nmX11 rfl 13 (by decide) (by decide) (po_M_rows (0 : Int32)) mw_1018 (fun _ h => h) rfl (tyX11_ok 13 (by decide)) (Nat.le_of_ble_eq_true rfl) dX11_motionsOf_2 ?_
  refine j_aload_n C 0 rfl rfl dX11_motionsOf_5 ?_
  refine j_iconst (v := 2) C (by decide) dX11_motionsOf_6 ?_
  refine j_aload_n C 0 rfl rfl dX11_motionsOf_7 ?_
  obtain ⟨q1, hq1, h⟩ := bi_some h
  refine j_callVi (As := []) (rest := [.int (2 : Int32), .ref (ad 30 0)]) C (c_X11_freePins hq1) (cwV 0 C.ts (good_V mw_1141 mw_1143 mw_37 mw_73 mw_1144) rfl rfl rfl (by decide +kernel) ⟨Nat.le_of_ble_eq_true rfl, Nat.le_of_ble_eq_true rfl⟩) (fun H hW => CW.rv C.k hW (by decide) cw_30 rfl) rfl rfl (Nat.le_of_ble_eq_true rfl) dX11_motionsOf_8 ⟨Nat.zero_le _, Nat.zero_le _⟩ ?_
  refine j_imul C dX11_motionsOf_11 ?_
  refine j_putI C in_X11 tyX11_ok nmX11 rfl 14 (by decide) (by decide) (po_M_columns ((2 : Int32) * q1)) mw_1019 (fun _ h => h) rfl (tyX11_ok 14 (by decide)) (Nat.le_of_ble_eq_true rfl) dX11_motionsOf_12 ?_
  refine j_iconst (v := 0) C (by decide) dX11_motionsOf_15 ?_
  refine j_istore_n (L' := [(2, .int (0 : Int32)), (0, .ref (ad 30 0)), (1, .ref (ad 31 11))]) C rfl (by decide) rfl dX11_motionsOf_16 ?_
  exact j_sub [1, 2, 0] rfl (t_X11_motionsOf_isIn_17 C FU (wI (wI σ 13 0 (0 : Int32)) 14 0 ((2 : Int32) * q1)) (0 : Int32) h)
set_option maxRecDepth 100000 in
set_option maxHeartbeats 4000000 in
theorem c_X11_motionsOf_isIn {l : Launch} {g : Gc} {ad : Nat → Nat → Nat} {χ : Mem} {T : Nat → Mem} {σ : Mem} {rr : Mem × Int32} (h : f_X11_motionsOf_isIn σ = some rr) : Met l yX11_motionsOf (WS yX11_motionsOf cX11_motionsOf 3 (some .int)) rm_X11_motionsOf_isIn (PreW g ad χ T σ [.ref (ad 30 0), .ref (ad 31 11)]) (PoI g ad χ T (rr.1) rr.2) 0 0 (geB g) := by
  refine j_metW (by decide) (Nat.le_of_ble_eq_true rfl) fun p e s m below meth c C hname => ?_
  rw [f_X11_motionsOf_isIn] at h
  exact j_sub [0, 1] rfl (t_X11_motionsOf_isIn_0 C σ h)
set_option maxRecDepth 100000 in
set_option maxHeartbeats 4000000 in
theorem t_X11_motionsOf_taken_17 {χ : Mem} {T : Nat → Mem} (C : Cx p s m args meth c cX11_motionsOf 3 RX11 (some .int) COM g) {rr : Mem × Int32} : ∀ (n : Nat) (σ : Mem) (v2 : Int32) (h : f_X11_motionsOf_taken_17 n σ v2 = some rr), JJ p l e rm_X11_motionsOf_taken s m args below meth c 3 g ad (MQ below (PoI g ad χ T (rr.1) rr.2) args s 0 0 (geB g)) χ T σ 0 0 [(0, .ref (ad 30 0)), (1, .ref (ad 31 20)), (2, .int v2)] 17 [] := by
  intro n
  induction n with
  | zero => intro  σ v2  h; cases h
  | succ n ih =>
  intro  σ v2  h
  rw [f_X11_motionsOf_taken_17] at h
  refine j_iload_n C 2 rfl rfl dX11_motionsOf_17 ?_
  refine j_aload_n C 0 rfl rfl dX11_motionsOf_18 ?_
  refine j_getG C in_X11 (by decide) cw_30 rfl 1 (by decide) mw_1006 (fun _ h => h) rfl dX11_motionsOf_19 ?_
  refine j_icmp_ge (tgt := 53) C (by decide) dX11_motionsOf_22 (fun hc1 => ?_) (fun hc1 => ?_)
  · replace h := (if_pos hc1).symm.trans h
    refine j_aload_n C 0 rfl rfl dX11_motionsOf_53 ?_
    refine j_getG C in_X11 (by decide) cw_30 rfl 14 (by decide) mw_1019 (fun _ h => h) rfl dX11_motionsOf_54 ?_
    refine j_aload_n C 0 rfl rfl dX11_motionsOf_57 ?_
    refine j_aload_n C 0 rfl rfl dX11_motionsOf_58 ?_
    refine j_getG C in_X11 (by decide) cw_30 rfl 14 (by decide) mw_1019 (fun _ h => h) rfl dX11_motionsOf_59 ?_
    obtain ⟨q2, hq2, h⟩ := bi_some h
    refine j_callVi (As := [.int (gI σ 14 0)]) (rest := [.int (gI σ 14 0)]) C (c_X11_steps hq2) (cwV 1 C.ts (good_V mw_1165 mw_1167 mw_43 mw_73 mw_1168) rfl rfl rfl (by decide +kernel) ⟨Nat.le_of_ble_eq_true rfl, Nat.le_of_ble_eq_true rfl⟩) (fun H hW => CW.rv C.k hW (by decide) cw_30 rfl) rfl rfl (Nat.le_of_ble_eq_true rfl) dX11_motionsOf_62 ⟨Nat.zero_le _, Nat.zero_le _⟩ ?_
    refine j_isub C dX11_motionsOf_65 ?_
    obtain rfl := Option.some.inj h
    exact j_iret C rfl rfl (Nat.le_refl _) (Nat.le_refl _) dX11_motionsOf_66
  · replace h := (if_neg hc1).symm.trans h
    refine j_aload_n C 1 rfl rfl dX11_motionsOf_25 ?_
    refine j_iload_n C 2 rfl rfl dX11_motionsOf_26 ?_
    obtain ⟨hg3, h⟩ := gd_some h
    refine j_zald C (by decide) cw_31_20 hg3 dX11_motionsOf_27 ?_
    refine j_if_eq (tgt := 47) C (by decide) dX11_motionsOf_28 (fun hc4 => ?_) (fun hc4 => ?_)
    · replace h := (if_pos hc4).symm.trans h
      refine j_iinc (v := v2 + (1 : Int32)) (L' := [(2, .int (v2 + (1 : Int32))), (0, .ref (ad 30 0)), (1, .ref (ad 31 20))]) C 2 rfl rfl (by decide) rfl dX11_motionsOf_47 ?_
      refine j_goto (tgt := 17) C (by decide) dX11_motionsOf_50 ?_
      exact j_sub [1, 2, 0] rfl (ih σ (v2 + (1 : Int32)) h)
    · replace h := (if_neg hc4).symm.trans h
      refine j_aload_n C 0 rfl rfl dX11_motionsOf_31 ?_
      refine j_aload_n C 0 rfl rfl dX11_motionsOf_32 ?_
      refine j_getG C in_X11 (by decide) cw_30 rfl 8 (by decide) mw_1013 (fun _ h => h) rfl dX11_motionsOf_33 ?_
      refine j_iload_n C 2 rfl rfl dX11_motionsOf_36 ?_
      refine j_iald C (by decide) cw_31_8 hg3 dX11_motionsOf_37 ?_
      refine j_aload_n C 0 rfl rfl dX11_motionsOf_38 ?_
      refine j_getG C in_X11 (by decide) cw_30 rfl 9 (by decide) mw_1014 (fun _ h => h) rfl dX11_motionsOf_39 ?_
      refine j_iload_n C 2 rfl rfl dX11_motionsOf_42 ?_
      refine j_iald C (by decide) cw_31_9 hg3 dX11_motionsOf_43 ?_
      obtain ⟨q5, hq5, h⟩ := bi_some h
      refine j_callVv (As := [.int (gI σ 8 v2.toNatClampNeg), .int (gI σ 9 v2.toNatClampNeg)]) (rest := []) C (c_X11_motionRow hq5) (cwV 2 C.ts (good_V mw_1157 mw_1159 mw_41 mw_73 mw_1160) rfl rfl rfl (by decide +kernel) ⟨Nat.le_of_ble_eq_true rfl, Nat.le_of_ble_eq_true rfl⟩) (fun H hW => CW.rv C.k hW (by decide) cw_30 rfl) rfl rfl (Nat.le_of_ble_eq_true rfl) dX11_motionsOf_44 ⟨Nat.zero_le _, Nat.zero_le _⟩ ?_
      refine j_iinc (v := v2 + (1 : Int32)) (L' := [(2, .int (v2 + (1 : Int32))), (0, .ref (ad 30 0)), (1, .ref (ad 31 20))]) C 2 rfl rfl (by decide) rfl dX11_motionsOf_47 ?_
      refine j_goto (tgt := 17) C (by decide) dX11_motionsOf_50 ?_
      exact j_sub [1, 2, 0] rfl (ih q5 (v2 + (1 : Int32)) h)
set_option maxRecDepth 100000 in
set_option maxHeartbeats 4000000 in
theorem t_X11_motionsOf_taken_0 {χ : Mem} {T : Nat → Mem} (C : Cx p s m args meth c cX11_motionsOf 3 RX11 (some .int) COM g) {rr : Mem × Int32} (σ : Mem) (h : f_X11_motionsOf_taken_0 σ = some rr) : JJ p l e rm_X11_motionsOf_taken s m args below meth c 3 g ad (MQ below (PoI g ad χ T (rr.1) rr.2) args s 0 0 (geB g)) χ T σ 0 0 [(0, .ref (ad 30 0)), (1, .ref (ad 31 20))] 0 [] := by
  rw [f_X11_motionsOf_taken_0] at h
  refine j_aload_n C 0 rfl rfl dX11_motionsOf_0 ?_
  refine j_iconst (v := 0) C (by decide) dX11_motionsOf_1 ?_
  refine j_putI C in_X11 tyX11_ok nmX11 rfl 13 (by decide) (by decide) (po_M_rows (0 : Int32)) mw_1018 (fun _ h => h) rfl (tyX11_ok 13 (by decide)) (Nat.le_of_ble_eq_true rfl) dX11_motionsOf_2 ?_
  refine j_aload_n C 0 rfl rfl dX11_motionsOf_5 ?_
  refine j_iconst (v := 2) C (by decide) dX11_motionsOf_6 ?_
  refine j_aload_n C 0 rfl rfl dX11_motionsOf_7 ?_
  obtain ⟨q1, hq1, h⟩ := bi_some h
  refine j_callVi (As := []) (rest := [.int (2 : Int32), .ref (ad 30 0)]) C (c_X11_freePins hq1) (cwV 0 C.ts (good_V mw_1141 mw_1143 mw_37 mw_73 mw_1144) rfl rfl rfl (by decide +kernel) ⟨Nat.le_of_ble_eq_true rfl, Nat.le_of_ble_eq_true rfl⟩) (fun H hW => CW.rv C.k hW (by decide) cw_30 rfl) rfl rfl (Nat.le_of_ble_eq_true rfl) dX11_motionsOf_8 ⟨Nat.zero_le _, Nat.zero_le _⟩ ?_
  refine j_imul C dX11_motionsOf_11 ?_
  refine j_putI C in_X11 tyX11_ok nmX11 rfl 14 (by decide) (by decide) (po_M_columns ((2 : Int32) * q1)) mw_1019 (fun _ h => h) rfl (tyX11_ok 14 (by decide)) (Nat.le_of_ble_eq_true rfl) dX11_motionsOf_12 ?_
  refine j_iconst (v := 0) C (by decide) dX11_motionsOf_15 ?_
  refine j_istore_n (L' := [(2, .int (0 : Int32)), (0, .ref (ad 30 0)), (1, .ref (ad 31 20))]) C rfl (by decide) rfl dX11_motionsOf_16 ?_
  exact j_sub [1, 2, 0] rfl (t_X11_motionsOf_taken_17 C FU (wI (wI σ 13 0 (0 : Int32)) 14 0 ((2 : Int32) * q1)) (0 : Int32) h)
set_option maxRecDepth 100000 in
set_option maxHeartbeats 4000000 in
theorem c_X11_motionsOf_taken {l : Launch} {g : Gc} {ad : Nat → Nat → Nat} {χ : Mem} {T : Nat → Mem} {σ : Mem} {rr : Mem × Int32} (h : f_X11_motionsOf_taken σ = some rr) : Met l yX11_motionsOf (WS yX11_motionsOf cX11_motionsOf 3 (some .int)) rm_X11_motionsOf_taken (PreW g ad χ T σ [.ref (ad 30 0), .ref (ad 31 20)]) (PoI g ad χ T (rr.1) rr.2) 0 0 (geB g) := by
  refine j_metW (by decide) (Nat.le_of_ble_eq_true rfl) fun p e s m below meth c C hname => ?_
  rw [f_X11_motionsOf_taken] at h
  exact j_sub [0, 1] rfl (t_X11_motionsOf_taken_0 C σ h)
set_option maxRecDepth 100000 in
set_option maxHeartbeats 4000000 in
theorem t_X11_motions_0 {χ : Mem} {T : Nat → Mem} (C : Cx p s m args meth c cX11_motions 1 RX11 (some .int) COM g) {rr : Mem × Int32} (σ : Mem) (h : f_X11_motions_0 σ = some rr) : JJ p l e rm_X11_motions s m args below meth c 1 g ad (MQ below (PoI g ad χ T (rr.1) rr.2) args s 0 0 (geB g)) χ T σ 0 0 [(0, .ref (ad 30 0))] 0 [] := by
  rw [f_X11_motions_0] at h
  refine j_aload_n C 0 rfl rfl dX11_motions_0 ?_
  refine j_aload_n C 0 rfl rfl dX11_motions_1 ?_
  refine j_getG C in_X11 (by decide) cw_30 rfl 11 (by decide) mw_1016 (fun _ h => h) rfl dX11_motions_2 ?_
  obtain ⟨q1, hq1, h⟩ := bi_some h
  refine j_callVi (As := [.ref (ad 31 11)]) (rest := []) C (c_X11_motionsOf_isIn hq1) (cwV 1 C.ts (good_V mw_1153 mw_1155 mw_40 mw_73 mw_1156) rfl rfl rfl (by decide +kernel) ⟨Nat.le_of_ble_eq_true rfl, Nat.le_of_ble_eq_true rfl⟩) (fun H hW => CW.rv C.k hW (by decide) cw_30 rfl) rfl rfl (Nat.le_of_ble_eq_true rfl) dX11_motions_5 ⟨Nat.zero_le _, Nat.zero_le _⟩ ?_
  obtain rfl := Option.some.inj h
  exact j_iret C rfl rfl (Nat.le_refl _) (Nat.le_refl _) dX11_motions_8
set_option maxRecDepth 100000 in
set_option maxHeartbeats 4000000 in
theorem c_X11_motions {l : Launch} {g : Gc} {ad : Nat → Nat → Nat} {χ : Mem} {T : Nat → Mem} {σ : Mem} {rr : Mem × Int32} (h : f_X11_motions σ = some rr) : Met l yX11_motions (WS yX11_motions cX11_motions 1 (some .int)) rm_X11_motions (PreW g ad χ T σ [.ref (ad 30 0)]) (PoI g ad χ T (rr.1) rr.2) 0 0 (geB g) := by
  refine j_metW (by decide) (Nat.le_of_ble_eq_true rfl) fun p e s m below meth c C hname => ?_
  rw [f_X11_motions] at h
  exact j_sub [0] rfl (t_X11_motions_0 C σ h)
set_option maxRecDepth 100000 in
set_option maxHeartbeats 4000000 in
theorem t_X11_planeMotions_0 {χ : Mem} {T : Nat → Mem} {σ : Mem} (C : Cx p s m args meth c cX11_planeMotions 3 RX11 (some .int) COM g) {rr : Int32} (h : f_X11_planeMotions_0 σ = some rr) : JJ p l e rm_X11_planeMotions s m args below meth c 3 g ad (MQ below (PoI g ad χ T σ rr) args s 0 0 (geB g)) χ T σ 0 0 [(0, .ref (ad 30 0))] 0 [] := by
  rw [f_X11_planeMotions_0] at h
  refine j_aload_n C 0 rfl rfl dX11_planeMotions_0 ?_
  obtain ⟨q1, hq1, h⟩ := bi_some h
  refine j_callVi (As := []) (rest := []) C (c_X11_freePins hq1) (cwV 0 C.ts (good_V mw_1141 mw_1143 mw_37 mw_73 mw_1144) rfl rfl rfl (by decide +kernel) ⟨Nat.le_of_ble_eq_true rfl, Nat.le_of_ble_eq_true rfl⟩) (fun H hW => CW.rv C.k hW (by decide) cw_30 rfl) rfl rfl (Nat.le_of_ble_eq_true rfl) dX11_planeMotions_1 ⟨Nat.zero_le _, Nat.zero_le _⟩ ?_
  refine j_istore_n (L' := [(1, .int q1), (0, .ref (ad 30 0))]) C rfl (by decide) rfl dX11_planeMotions_4 ?_
  refine j_aload_n C 1 rfl rfl dX11_planeMotions_5 ?_
  refine j_getG C in_X11 (by decide) cw_30 rfl 0 (by decide) mw_1005 (fun _ h => h) rfl dX11_planeMotions_6 ?_
  refine j_iload_n C 0 rfl rfl dX11_planeMotions_9 ?_
  refine j_isub C dX11_planeMotions_10 ?_
  refine j_istore_n (L' := [(2, .int ((gI σ 0 0) - q1)), (1, .int q1), (0, .ref (ad 30 0))]) C rfl (by decide) rfl dX11_planeMotions_11 ?_
  refine j_iload_n C 0 rfl rfl dX11_planeMotions_12 ?_
  refine j_if_ne (tgt := 29) C (by decide) dX11_planeMotions_13 (fun hc2 => ?_) (fun hc2 => ?_)
  · replace h := (if_neg hc2).symm.trans h
    refine j_iload_n C 0 rfl rfl dX11_planeMotions_29 ?_
    refine j_iconst (v := 1) C (by decide) dX11_planeMotions_30 ?_
    refine j_icmp_ne (tgt := 42) C (by decide) dX11_planeMotions_31 (fun hc3 => ?_) (fun hc3 => ?_)
    · replace h := (if_neg hc3).symm.trans h
      refine j_iconst (v := 0) C (by decide) dX11_planeMotions_42 ?_
      obtain rfl := Option.some.inj h
      exact j_iret C rfl rfl (Nat.le_refl _) (Nat.le_refl _) dX11_planeMotions_43
    · replace h := (if_pos hc3).symm.trans h
      refine j_iload_n C 1 rfl rfl dX11_planeMotions_34 ?_
      refine j_if_le (tgt := 42) C (by decide) dX11_planeMotions_35 (fun hc4 => ?_) (fun hc4 => ?_)
      · replace h := (if_pos hc4).symm.trans h
        refine j_iconst (v := 0) C (by decide) dX11_planeMotions_42 ?_
        obtain rfl := Option.some.inj h
        exact j_iret C rfl rfl (Nat.le_refl _) (Nat.le_refl _) dX11_planeMotions_43
      · replace h := (if_neg hc4).symm.trans h
        refine j_iconst (v := 1) C (by decide) dX11_planeMotions_38 ?_
        refine j_goto (tgt := 43) C (by decide) dX11_planeMotions_39 ?_
        obtain rfl := Option.some.inj h
        exact j_iret C rfl rfl (Nat.le_refl _) (Nat.le_refl _) dX11_planeMotions_43
  · replace h := (if_pos hc2).symm.trans h
    refine j_iload_n C 1 rfl rfl dX11_planeMotions_16 ?_
    refine j_iconst (v := 2) C (by decide) dX11_planeMotions_17 ?_
    refine j_icmp_ge (tgt := 27) C (by decide) dX11_planeMotions_18 (fun hc5 => ?_) (fun hc5 => ?_)
    · replace h := (if_pos hc5).symm.trans h
      refine j_iconst (v := 3) C (by decide) dX11_planeMotions_27 ?_
      obtain rfl := Option.some.inj h
      exact j_iret C rfl rfl (Nat.le_refl _) (Nat.le_refl _) dX11_planeMotions_28
    · replace h := (if_neg hc5).symm.trans h
      refine j_iconst (v := 2) C (by decide) dX11_planeMotions_21 ?_
      refine j_iload_n C 1 rfl rfl dX11_planeMotions_22 ?_
      refine j_imul C dX11_planeMotions_23 ?_
      refine j_goto (tgt := 28) C (by decide) dX11_planeMotions_24 ?_
      obtain rfl := Option.some.inj h
      exact j_iret C rfl rfl (Nat.le_refl _) (Nat.le_refl _) dX11_planeMotions_28
set_option maxRecDepth 100000 in
set_option maxHeartbeats 4000000 in
theorem c_X11_planeMotions {l : Launch} {g : Gc} {ad : Nat → Nat → Nat} {χ : Mem} {T : Nat → Mem} {σ : Mem} {rr : Int32} (h : f_X11_planeMotions σ = some rr) : Met l yX11_planeMotions (WS yX11_planeMotions cX11_planeMotions 3 (some .int)) rm_X11_planeMotions (PreW g ad χ T σ [.ref (ad 30 0)]) (PoI g ad χ T σ rr) 0 0 (geB g) := by
  refine j_metW (by decide) (Nat.le_of_ble_eq_true rfl) fun p e s m below meth c C hname => ?_
  rw [f_X11_planeMotions] at h
  exact j_sub [0] rfl (t_X11_planeMotions_0 C h)
set_option maxRecDepth 100000 in
set_option maxHeartbeats 4000000 in
theorem t_X11_isStiff_isIn_0 {χ : Mem} {T : Nat → Mem} (C : Cx p s m args meth c cX11_isStiff 2 RX11 (some .boolean) COM g) {rr : Mem × Int32} (σ : Mem) (h : f_X11_isStiff_isIn_0 σ = some rr) : JJ p l e rm_X11_isStiff_isIn s m args below meth c 2 g ad (MQ below (PoI g ad χ T (rr.1) rr.2) args s 0 0 (geB g)) χ T σ 0 0 [(0, .ref (ad 30 0)), (1, .ref (ad 31 11))] 0 [] := by
  rw [f_X11_isStiff_isIn_0] at h
  refine j_aload_n C 0 rfl rfl dX11_isStiff_0 ?_
  refine j_aload_n C 1 rfl rfl dX11_isStiff_1 ?_
  obtain ⟨q1, hq1, h⟩ := bi_some h
  refine j_callVi (As := [.ref (ad 31 11)]) (rest := []) C (c_X11_motionsOf_isIn hq1) (cwV 1 C.ts (good_V mw_1153 mw_1155 mw_40 mw_73 mw_1156) rfl rfl rfl (by decide +kernel) ⟨Nat.le_of_ble_eq_true rfl, Nat.le_of_ble_eq_true rfl⟩) (fun H hW => CW.rv C.k hW (by decide) cw_30 rfl) rfl rfl (Nat.le_of_ble_eq_true rfl) dX11_isStiff_2 ⟨Nat.zero_le _, Nat.zero_le _⟩ ?_
  refine j_aload_n C 0 rfl rfl dX11_isStiff_5 ?_
  obtain ⟨q2, hq2, h⟩ := bi_some h
  refine j_callVi (As := []) (rest := [.int q1.2]) C (c_X11_planeMotions hq2) (cwV 0 C.ts (good_V mw_1244 mw_1246 mw_56 mw_73 mw_1247) rfl rfl rfl (by decide +kernel) ⟨Nat.le_of_ble_eq_true rfl, Nat.le_of_ble_eq_true rfl⟩) (fun H hW => CW.rv C.k hW (by decide) cw_30 rfl) rfl rfl (Nat.le_of_ble_eq_true rfl) dX11_isStiff_6 ⟨Nat.zero_le _, Nat.zero_le _⟩ ?_
  refine j_icmp_ne (tgt := 16) C (by decide) dX11_isStiff_9 (fun hc3 => ?_) (fun hc3 => ?_)
  · replace h := (if_neg hc3).symm.trans h
    refine j_iconst (v := 0) C (by decide) dX11_isStiff_16 ?_
    obtain rfl := Option.some.inj h
    exact j_iret C rfl (bo_nar (Or.inl rfl)) (Nat.le_refl _) (Nat.le_refl _) dX11_isStiff_17
  · replace h := (if_pos hc3).symm.trans h
    refine j_iconst (v := 1) C (by decide) dX11_isStiff_12 ?_
    refine j_goto (tgt := 17) C (by decide) dX11_isStiff_13 ?_
    obtain rfl := Option.some.inj h
    exact j_iret C rfl (bo_nar (Or.inr rfl)) (Nat.le_refl _) (Nat.le_refl _) dX11_isStiff_17
set_option maxRecDepth 100000 in
set_option maxHeartbeats 4000000 in
theorem c_X11_isStiff_isIn {l : Launch} {g : Gc} {ad : Nat → Nat → Nat} {χ : Mem} {T : Nat → Mem} {σ : Mem} {rr : Mem × Int32} (h : f_X11_isStiff_isIn σ = some rr) : Met l yX11_isStiff (WS yX11_isStiff cX11_isStiff 2 (some .boolean)) rm_X11_isStiff_isIn (PreW g ad χ T σ [.ref (ad 30 0), .ref (ad 31 11)]) (PoI g ad χ T (rr.1) rr.2) 0 0 (geB g) := by
  refine j_metW (by decide) (Nat.le_of_ble_eq_true rfl) fun p e s m below meth c C hname => ?_
  rw [f_X11_isStiff_isIn] at h
  exact j_sub [0, 1] rfl (t_X11_isStiff_isIn_0 C σ h)
set_option maxRecDepth 100000 in
set_option maxHeartbeats 4000000 in
theorem t_X11_isStiff_taken_0 {χ : Mem} {T : Nat → Mem} (C : Cx p s m args meth c cX11_isStiff 2 RX11 (some .boolean) COM g) {rr : Mem × Int32} (σ : Mem) (h : f_X11_isStiff_taken_0 σ = some rr) : JJ p l e rm_X11_isStiff_taken s m args below meth c 2 g ad (MQ below (PoI g ad χ T (rr.1) rr.2) args s 0 0 (geB g)) χ T σ 0 0 [(0, .ref (ad 30 0)), (1, .ref (ad 31 20))] 0 [] := by
  rw [f_X11_isStiff_taken_0] at h
  refine j_aload_n C 0 rfl rfl dX11_isStiff_0 ?_
  refine j_aload_n C 1 rfl rfl dX11_isStiff_1 ?_
  obtain ⟨q1, hq1, h⟩ := bi_some h
  refine j_callVi (As := [.ref (ad 31 20)]) (rest := []) C (c_X11_motionsOf_taken hq1) (cwV 1 C.ts (good_V mw_1153 mw_1155 mw_40 mw_73 mw_1156) rfl rfl rfl (by decide +kernel) ⟨Nat.le_of_ble_eq_true rfl, Nat.le_of_ble_eq_true rfl⟩) (fun H hW => CW.rv C.k hW (by decide) cw_30 rfl) rfl rfl (Nat.le_of_ble_eq_true rfl) dX11_isStiff_2 ⟨Nat.zero_le _, Nat.zero_le _⟩ ?_
  refine j_aload_n C 0 rfl rfl dX11_isStiff_5 ?_
  obtain ⟨q2, hq2, h⟩ := bi_some h
  refine j_callVi (As := []) (rest := [.int q1.2]) C (c_X11_planeMotions hq2) (cwV 0 C.ts (good_V mw_1244 mw_1246 mw_56 mw_73 mw_1247) rfl rfl rfl (by decide +kernel) ⟨Nat.le_of_ble_eq_true rfl, Nat.le_of_ble_eq_true rfl⟩) (fun H hW => CW.rv C.k hW (by decide) cw_30 rfl) rfl rfl (Nat.le_of_ble_eq_true rfl) dX11_isStiff_6 ⟨Nat.zero_le _, Nat.zero_le _⟩ ?_
  refine j_icmp_ne (tgt := 16) C (by decide) dX11_isStiff_9 (fun hc3 => ?_) (fun hc3 => ?_)
  · replace h := (if_neg hc3).symm.trans h
    refine j_iconst (v := 0) C (by decide) dX11_isStiff_16 ?_
    obtain rfl := Option.some.inj h
    exact j_iret C rfl (bo_nar (Or.inl rfl)) (Nat.le_refl _) (Nat.le_refl _) dX11_isStiff_17
  · replace h := (if_pos hc3).symm.trans h
    refine j_iconst (v := 1) C (by decide) dX11_isStiff_12 ?_
    refine j_goto (tgt := 17) C (by decide) dX11_isStiff_13 ?_
    obtain rfl := Option.some.inj h
    exact j_iret C rfl (bo_nar (Or.inr rfl)) (Nat.le_refl _) (Nat.le_refl _) dX11_isStiff_17
set_option maxRecDepth 100000 in
set_option maxHeartbeats 4000000 in
theorem c_X11_isStiff_taken {l : Launch} {g : Gc} {ad : Nat → Nat → Nat} {χ : Mem} {T : Nat → Mem} {σ : Mem} {rr : Mem × Int32} (h : f_X11_isStiff_taken σ = some rr) : Met l yX11_isStiff (WS yX11_isStiff cX11_isStiff 2 (some .boolean)) rm_X11_isStiff_taken (PreW g ad χ T σ [.ref (ad 30 0), .ref (ad 31 20)]) (PoI g ad χ T (rr.1) rr.2) 0 0 (geB g) := by
  refine j_metW (by decide) (Nat.le_of_ble_eq_true rfl) fun p e s m below meth c C hname => ?_
  rw [f_X11_isStiff_taken] at h
  exact j_sub [0, 1] rfl (t_X11_isStiff_taken_0 C σ h)
set_option maxRecDepth 100000 in
set_option maxHeartbeats 4000000 in
theorem t_X11_inCount_4 {χ : Mem} {T : Nat → Mem} {σ : Mem} (C : Cx p s m args meth c cX11_inCount 3 RX11 (some .int) COM g) {rr : Int32} : ∀ (n : Nat) (v1 : Int32) (v2 : Int32) (h : f_X11_inCount_4 σ n v1 v2 = some rr), JJ p l e rm_X11_inCount s m args below meth c 3 g ad (MQ below (PoI g ad χ T σ rr) args s 0 0 (geB g)) χ T σ 0 0 [(0, .ref (ad 30 0)), (1, .int v1), (2, .int v2)] 4 [] := by
  intro n
  induction n with
  | zero => intro  v1 v2  h; cases h
  | succ n ih =>
  intro  v1 v2  h
  rw [f_X11_inCount_4] at h
  refine j_iload_n C 2 rfl rfl dX11_inCount_4 ?_
  refine j_aload_n C 0 rfl rfl dX11_inCount_5 ?_
  refine j_getG C in_X11 (by decide) cw_30 rfl 1 (by decide) mw_1006 (fun _ h => h) rfl dX11_inCount_6 ?_
  refine j_icmp_ge (tgt := 30) C (by decide) dX11_inCount_9 (fun hc1 => ?_) (fun hc1 => ?_)
  · replace h := (if_pos hc1).symm.trans h
    refine j_iload_n C 1 rfl rfl dX11_inCount_30 ?_
    obtain rfl := Option.some.inj h
    exact j_iret C rfl rfl (Nat.le_refl _) (Nat.le_refl _) dX11_inCount_31
  · replace h := (if_neg hc1).symm.trans h
    refine j_aload_n C 0 rfl rfl dX11_inCount_12 ?_
    refine j_getG C in_X11 (by decide) cw_30 rfl 11 (by decide) mw_1016 (fun _ h => h) rfl dX11_inCount_13 ?_
    refine j_iload_n C 2 rfl rfl dX11_inCount_16 ?_
    obtain ⟨hg2, h⟩ := gd_some h
    refine j_zald C (by decide) cw_31_11 hg2 dX11_inCount_17 ?_
    refine j_if_eq (tgt := 24) C (by decide) dX11_inCount_18 (fun hc3 => ?_) (fun hc3 => ?_)
    · replace h := (if_pos hc3).symm.trans h
      refine j_iinc (v := v2 + (1 : Int32)) (L' := [(2, .int (v2 + (1 : Int32))), (0, .ref (ad 30 0)), (1, .int v1)]) C 2 rfl rfl (by decide) rfl dX11_inCount_24 ?_
      refine j_goto (tgt := 4) C (by decide) dX11_inCount_27 ?_
      exact j_sub [1, 2, 0] rfl (ih v1 (v2 + (1 : Int32)) h)
    · replace h := (if_neg hc3).symm.trans h
      refine j_iinc (v := v1 + (1 : Int32)) (L' := [(1, .int (v1 + (1 : Int32))), (0, .ref (ad 30 0)), (2, .int v2)]) C 1 rfl rfl (by decide) rfl dX11_inCount_21 ?_
      refine j_iinc (v := v2 + (1 : Int32)) (L' := [(2, .int (v2 + (1 : Int32))), (1, .int (v1 + (1 : Int32))), (0, .ref (ad 30 0))]) C 2 rfl rfl (by decide) rfl dX11_inCount_24 ?_
      refine j_goto (tgt := 4) C (by decide) dX11_inCount_27 ?_
      exact j_sub [2, 1, 0] rfl (ih (v1 + (1 : Int32)) (v2 + (1 : Int32)) h)
set_option maxRecDepth 100000 in
set_option maxHeartbeats 4000000 in
theorem t_X11_inCount_0 {χ : Mem} {T : Nat → Mem} {σ : Mem} (C : Cx p s m args meth c cX11_inCount 3 RX11 (some .int) COM g) {rr : Int32} (h : f_X11_inCount_0 σ = some rr) : JJ p l e rm_X11_inCount s m args below meth c 3 g ad (MQ below (PoI g ad χ T σ rr) args s 0 0 (geB g)) χ T σ 0 0 [(0, .ref (ad 30 0))] 0 [] := by
  rw [f_X11_inCount_0] at h
  refine j_iconst (v := 0) C (by decide) dX11_inCount_0 ?_
  refine j_istore_n (L' := [(1, .int (0 : Int32)), (0, .ref (ad 30 0))]) C rfl (by decide) rfl dX11_inCount_1 ?_
  refine j_iconst (v := 0) C (by decide) dX11_inCount_2 ?_
  refine j_istore_n (L' := [(2, .int (0 : Int32)), (1, .int (0 : Int32)), (0, .ref (ad 30 0))]) C rfl (by decide) rfl dX11_inCount_3 ?_
  exact j_sub [2, 1, 0] rfl (t_X11_inCount_4 C FU (0 : Int32) (0 : Int32) h)
set_option maxRecDepth 100000 in
set_option maxHeartbeats 4000000 in
theorem c_X11_inCount {l : Launch} {g : Gc} {ad : Nat → Nat → Nat} {χ : Mem} {T : Nat → Mem} {σ : Mem} {rr : Int32} (h : f_X11_inCount σ = some rr) : Met l yX11_inCount (WS yX11_inCount cX11_inCount 3 (some .int)) rm_X11_inCount (PreW g ad χ T σ [.ref (ad 30 0)]) (PoI g ad χ T σ rr) 0 0 (geB g) := by
  refine j_metW (by decide) (Nat.le_of_ble_eq_true rfl) fun p e s m below meth c C hname => ?_
  rw [f_X11_inCount] at h
  exact j_sub [0] rfl (t_X11_inCount_0 C h)
set_option maxRecDepth 100000 in
set_option maxHeartbeats 4000000 in
theorem t_X11_stresses_259 {χ : Mem} {T : Nat → Mem} (C : Cx p s m args meth c cX11_stresses 6 RX11 (some .int) COM g) {rr : Mem × Int32} : ∀ (n : Nat) (σ : Mem) (v1 : Int32) (h : f_X11_stresses_259 n σ v1 = some rr), JJ p l e rm_X11_stresses s m args below meth c 6 g ad (MQ below (PoI g ad χ T (rr.1) rr.2) args s 0 0 (geB g)) χ T σ 0 0 [(0, .ref (ad 30 0)), (1, .int v1)] 259 [] := by
  intro n
  induction n with
  | zero => intro  σ v1  h; cases h
  | succ n ih =>
  intro  σ v1  h
  rw [f_X11_stresses_259] at h
  refine j_iload_n C 1 rfl rfl dX11_stresses_259 ?_
  refine j_aload_n C 0 rfl rfl dX11_stresses_260 ?_
  refine j_getG C in_X11 (by decide) cw_30 rfl 0 (by decide) mw_1005 (fun _ h => h) rfl dX11_stresses_261 ?_
  refine j_icmp_ge (tgt := 331) C (by decide) dX11_stresses_264 (fun hc1 => ?_) (fun hc1 => ?_)
  · replace h := (if_pos hc1).symm.trans h
    refine j_aload_n C 0 rfl rfl dX11_stresses_331 ?_
    refine j_getG C in_X11 (by decide) cw_30 rfl 14 (by decide) mw_1019 (fun _ h => h) rfl dX11_stresses_332 ?_
    refine j_aload_n C 0 rfl rfl dX11_stresses_335 ?_
    refine j_aload_n C 0 rfl rfl dX11_stresses_336 ?_
    refine j_getG C in_X11 (by decide) cw_30 rfl 14 (by decide) mw_1019 (fun _ h => h) rfl dX11_stresses_337 ?_
    refine j_iconst (v := 1) C (by decide) dX11_stresses_340 ?_
    refine j_iadd C dX11_stresses_341 ?_
    obtain ⟨q2, hq2, h⟩ := bi_some h
    refine j_callVi (As := [.int ((gI σ 14 0) + (1 : Int32))]) (rest := [.int (gI σ 14 0)]) C (c_X11_steps hq2) (cwV 1 C.ts (good_V mw_1165 mw_1167 mw_43 mw_73 mw_1168) rfl rfl rfl (by decide +kernel) ⟨Nat.le_of_ble_eq_true rfl, Nat.le_of_ble_eq_true rfl⟩) (fun H hW => CW.rv C.k hW (by decide) cw_30 rfl) rfl rfl (Nat.le_of_ble_eq_true rfl) dX11_stresses_342 ⟨Nat.zero_le _, Nat.zero_le _⟩ ?_
    refine j_isub C dX11_stresses_345 ?_
    obtain rfl := Option.some.inj h
    exact j_iret C rfl rfl (Nat.le_refl _) (Nat.le_refl _) dX11_stresses_346
  · replace h := (if_neg hc1).symm.trans h
    refine j_aload_n C 0 rfl rfl dX11_stresses_267 ?_
    refine j_iload_n C 1 rfl rfl dX11_stresses_268 ?_
    obtain ⟨q3, hq3, h⟩ := bi_some h
    refine j_callVi (As := [.int v1]) (rest := []) C (c_X11_freeColumn hq3) (cwV 1 C.ts (good_V mw_1161 mw_1163 mw_42 mw_73 mw_1164) rfl rfl rfl (by decide +kernel) ⟨Nat.le_of_ble_eq_true rfl, Nat.le_of_ble_eq_true rfl⟩) (fun H hW => CW.rv C.k hW (by decide) cw_30 rfl) rfl rfl (Nat.le_of_ble_eq_true rfl) dX11_stresses_269 ⟨Nat.zero_le _, Nat.zero_le _⟩ ?_
    refine j_istore_n (L' := [(2, .int q3), (0, .ref (ad 30 0)), (1, .int v1)]) C rfl (by decide) rfl dX11_stresses_272 ?_
    refine j_iload_n C 0 rfl rfl dX11_stresses_273 ?_
    refine j_iconst (v := -1) C (by decide) dX11_stresses_274 ?_
    refine j_icmp_ne (tgt := 281) C (by decide) dX11_stresses_275 (fun hc4 => ?_) (fun hc4 => ?_)
    · replace h := (if_neg hc4).symm.trans h
      refine j_aload_n C 1 rfl rfl dX11_stresses_281 ?_
      refine j_getG C in_X11 (by decide) cw_30 rfl 12 (by decide) mw_1017 (fun _ h => h) rfl dX11_stresses_282 ?_
      refine j_bipush (v := 16) C (by decide) dX11_stresses_285 ?_
      refine j_iload_n C 0 rfl rfl dX11_stresses_287 ?_
      refine j_imul C dX11_stresses_288 ?_
      refine j_aload_n C 1 rfl rfl dX11_stresses_289 ?_
      refine j_getG C in_X11 (by decide) cw_30 rfl 14 (by decide) mw_1019 (fun _ h => h) rfl dX11_stresses_290 ?_
      refine j_iadd C dX11_stresses_293 ?_
      refine j_aload_n C 1 rfl rfl dX11_stresses_294 ?_
      refine j_getG C in_X11 (by decide) cw_30 rfl 4 (by decide) mw_1009 (fun _ h => h) rfl dX11_stresses_295 ?_
      refine j_iload_n C 2 rfl rfl dX11_stresses_298 ?_
      obtain ⟨hg5, h⟩ := gd_some h
      refine j_iald C (by decide) cw_31_4 hg5 dX11_stresses_299 ?_
      refine j_i2l C dX11_stresses_300 ?_
      obtain ⟨hg6, h⟩ := gd_some h
      refine j_lastP C (by decide) (po_M_m ((((16 : Int32) * q3) + (gI σ 14 0)).toNatClampNeg) ((gI σ 4 v1.toNatClampNeg).toInt64)) hg6 dX11_stresses_301 ?_
      refine j_aload_n C 1 rfl rfl dX11_stresses_302 ?_
      refine j_getG C in_X11 (by decide) cw_30 rfl 12 (by decide) mw_1017 (fun _ h => h) rfl dX11_stresses_303 ?_
      refine j_bipush (v := 16) C (by decide) dX11_stresses_306 ?_
      refine j_iload_n C 0 rfl rfl dX11_stresses_308 ?_
      refine j_iconst (v := 1) C (by decide) dX11_stresses_309 ?_
      refine j_iadd C dX11_stresses_310 ?_
      refine j_imul C dX11_stresses_311 ?_
      refine j_aload_n C 1 rfl rfl dX11_stresses_312 ?_
      refine j_getG C in_X11 (by decide) cw_30 rfl 14 (by decide) mw_1019 (fun _ h => h) rfl dX11_stresses_313 ?_
      refine j_iadd C dX11_stresses_316 ?_
      refine j_aload_n C 1 rfl rfl dX11_stresses_317 ?_
      refine j_getG C in_X11 (by decide) cw_30 rfl 5 (by decide) mw_1010 (fun _ h => h) rfl dX11_stresses_318 ?_
      refine j_iload_n C 2 rfl rfl dX11_stresses_321 ?_
      refine j_iald C (by decide) cw_31_5 hg5 dX11_stresses_322 ?_
      refine j_i2l C dX11_stresses_323 ?_
      obtain ⟨hg7, h⟩ := gd_some h
      refine j_lastP C (by decide) (po_M_m ((((16 : Int32) * (q3 + (1 : Int32))) + (gI (wL σ 12 ((((16 : Int32) * q3) + (gI σ 14 0)).toNatClampNeg) ((gI σ 4 v1.toNatClampNeg).toInt64)) 14 0)).toNatClampNeg) ((gI (wL σ 12 ((((16 : Int32) * q3) + (gI σ 14 0)).toNatClampNeg) ((gI σ 4 v1.toNatClampNeg).toInt64)) 5 v1.toNatClampNeg).toInt64)) hg7 dX11_stresses_324 ?_
      refine j_iinc (v := v1 + (1 : Int32)) (L' := [(1, .int (v1 + (1 : Int32))), (2, .int q3), (0, .ref (ad 30 0))]) C 2 rfl rfl (by decide) rfl dX11_stresses_325 ?_
      refine j_goto (tgt := 259) C (by decide) dX11_stresses_328 ?_
      exact j_sub [2, 0] rfl (ih (wL (wL σ 12 ((((16 : Int32) * q3) + (gI σ 14 0)).toNatClampNeg) ((gI σ 4 v1.toNatClampNeg).toInt64)) 12 ((((16 : Int32) * (q3 + (1 : Int32))) + (gI (wL σ 12 ((((16 : Int32) * q3) + (gI σ 14 0)).toNatClampNeg) ((gI σ 4 v1.toNatClampNeg).toInt64)) 14 0)).toNatClampNeg) ((gI (wL σ 12 ((((16 : Int32) * q3) + (gI σ 14 0)).toNatClampNeg) ((gI σ 4 v1.toNatClampNeg).toInt64)) 5 v1.toNatClampNeg).toInt64)) (v1 + (1 : Int32)) h)
    · replace h := (if_pos hc4).symm.trans h
      refine j_goto (tgt := 325) C (by decide) dX11_stresses_278 ?_
      refine j_iinc (v := v1 + (1 : Int32)) (L' := [(1, .int (v1 + (1 : Int32))), (2, .int q3), (0, .ref (ad 30 0))]) C 2 rfl rfl (by decide) rfl dX11_stresses_325 ?_
      refine j_goto (tgt := 259) C (by decide) dX11_stresses_328 ?_
      exact j_sub [2, 0] rfl (ih σ (v1 + (1 : Int32)) h)
set_option maxRecDepth 100000 in
set_option maxHeartbeats 4000000 in
theorem t_X11_stresses_191 {χ : Mem} {T : Nat → Mem} (C : Cx p s m args meth c cX11_stresses 6 RX11 (some .int) COM g) {rr : Mem × Int32} {k85 : Mem → Int32 → Option (Mem × Int32)} (hk85 : ∀ (σ : Mem) (v1 : Int32) , k85 σ v1 = some rr → JJ p l e rm_X11_stresses s m args below meth c 6 g ad (MQ below (PoI g ad χ T (rr.1) rr.2) args s 0 0 (geB g)) χ T σ 0 0 [(0, .ref (ad 30 0)), (1, .int v1)] 85 []) (σ : Mem) (v1 : Int32) (v2 : Int32) (v3 : Int32) (v5 : Int32) (h : f_X11_stresses_191 k85 σ v1 v2 v3 v5 = some rr) : JJ p l e rm_X11_stresses s m args below meth c 6 g ad (MQ below (PoI g ad χ T (rr.1) rr.2) args s 0 0 (geB g)) χ T σ 0 0 [(0, .ref (ad 30 0)), (1, .int v1), (2, .int v2), (3, .int v3), (5, .int v5)] 191 [] := by
  rw [f_X11_stresses_191] at h
  refine j_iload C 4 rfl dX11_stresses_191 ?_
  refine j_iconst (v := -1) C (by decide) dX11_stresses_193 ?_
  refine j_icmp_eq (tgt := 251) C (by decide) dX11_stresses_194 (fun hc1 => ?_) (fun hc1 => ?_)
  · replace h := (if_pos hc1).symm.trans h
    refine j_iinc (v := v1 + (1 : Int32)) (L' := [(1, .int (v1 + (1 : Int32))), (0, .ref (ad 30 0)), (2, .int v2), (3, .int v3), (5, .int v5)]) C 1 rfl rfl (by decide) rfl dX11_stresses_251 ?_
    refine j_goto (tgt := 85) C (by decide) dX11_stresses_254 ?_
    exact j_sub [1, 0] rfl (hk85 σ (v1 + (1 : Int32)) h)
  · replace h := (if_neg hc1).symm.trans h
    refine j_aload_n C 0 rfl rfl dX11_stresses_197 ?_
    refine j_getG C in_X11 (by decide) cw_30 rfl 12 (by decide) mw_1017 (fun _ h => h) rfl dX11_stresses_198 ?_
    refine j_bipush (v := 16) C (by decide) dX11_stresses_201 ?_
    refine j_iload C 4 rfl dX11_stresses_203 ?_
    refine j_imul C dX11_stresses_205 ?_
    refine j_iload_n C 1 rfl rfl dX11_stresses_206 ?_
    refine j_iadd C dX11_stresses_207 ?_
    refine j_aload_n C 0 rfl rfl dX11_stresses_208 ?_
    refine j_getG C in_X11 (by decide) cw_30 rfl 2 (by decide) mw_1007 (fun _ h => h) rfl dX11_stresses_209 ?_
    refine j_iload_n C 3 rfl rfl dX11_stresses_212 ?_
    obtain ⟨hg2, h⟩ := gd_some h
    refine j_iald C (by decide) cw_31_2 hg2 dX11_stresses_213 ?_
    refine j_aload_n C 0 rfl rfl dX11_stresses_214 ?_
    refine j_getG C in_X11 (by decide) cw_30 rfl 2 (by decide) mw_1007 (fun _ h => h) rfl dX11_stresses_215 ?_
    refine j_iload_n C 2 rfl rfl dX11_stresses_218 ?_
    obtain ⟨hg3, h⟩ := gd_some h
    refine j_iald C (by decide) cw_31_2 hg3 dX11_stresses_219 ?_
    refine j_isub C dX11_stresses_220 ?_
    refine j_i2l C dX11_stresses_221 ?_
    obtain ⟨hg4, h⟩ := gd_some h
    refine j_lastP C (by decide) (po_M_m ((((16 : Int32) * v5) + v1).toNatClampNeg) (((gI σ 2 v3.toNatClampNeg) - (gI σ 2 v2.toNatClampNeg)).toInt64)) hg4 dX11_stresses_222 ?_
    refine j_aload_n C 0 rfl rfl dX11_stresses_223 ?_
    refine j_getG C in_X11 (by decide) cw_30 rfl 12 (by decide) mw_1017 (fun _ h => h) rfl dX11_stresses_224 ?_
    refine j_bipush (v := 16) C (by decide) dX11_stresses_227 ?_
    refine j_iload C 4 rfl dX11_stresses_229 ?_
    refine j_iconst (v := 1) C (by decide) dX11_stresses_231 ?_
    refine j_iadd C dX11_stresses_232 ?_
    refine j_imul C dX11_stresses_233 ?_
    refine j_iload_n C 1 rfl rfl dX11_stresses_234 ?_
    refine j_iadd C dX11_stresses_235 ?_
    refine j_aload_n C 0 rfl rfl dX11_stresses_236 ?_
    refine j_getG C in_X11 (by decide) cw_30 rfl 3 (by decide) mw_1008 (fun _ h => h) rfl dX11_stresses_237 ?_
    refine j_iload_n C 3 rfl rfl dX11_stresses_240 ?_
    refine j_iald C (by decide) cw_31_3 hg2 dX11_stresses_241 ?_
    refine j_aload_n C 0 rfl rfl dX11_stresses_242 ?_
    refine j_getG C in_X11 (by decide) cw_30 rfl 3 (by decide) mw_1008 (fun _ h => h) rfl dX11_stresses_243 ?_
    refine j_iload_n C 2 rfl rfl dX11_stresses_246 ?_
    refine j_iald C (by decide) cw_31_3 hg3 dX11_stresses_247 ?_
    refine j_isub C dX11_stresses_248 ?_
    refine j_i2l C dX11_stresses_249 ?_
    obtain ⟨hg5, h⟩ := gd_some h
    refine j_lastP C (by decide) (po_M_m ((((16 : Int32) * (v5 + (1 : Int32))) + v1).toNatClampNeg) (((gI (wL σ 12 ((((16 : Int32) * v5) + v1).toNatClampNeg) (((gI σ 2 v3.toNatClampNeg) - (gI σ 2 v2.toNatClampNeg)).toInt64)) 3 v3.toNatClampNeg) - (gI (wL σ 12 ((((16 : Int32) * v5) + v1).toNatClampNeg) (((gI σ 2 v3.toNatClampNeg) - (gI σ 2 v2.toNatClampNeg)).toInt64)) 3 v2.toNatClampNeg)).toInt64)) hg5 dX11_stresses_250 ?_
    refine j_iinc (v := v1 + (1 : Int32)) (L' := [(1, .int (v1 + (1 : Int32))), (0, .ref (ad 30 0)), (2, .int v2), (3, .int v3), (5, .int v5)]) C 1 rfl rfl (by decide) rfl dX11_stresses_251 ?_
    refine j_goto (tgt := 85) C (by decide) dX11_stresses_254 ?_
    exact j_sub [1, 0] rfl (hk85 (wL (wL σ 12 ((((16 : Int32) * v5) + v1).toNatClampNeg) (((gI σ 2 v3.toNatClampNeg) - (gI σ 2 v2.toNatClampNeg)).toInt64)) 12 ((((16 : Int32) * (v5 + (1 : Int32))) + v1).toNatClampNeg) (((gI (wL σ 12 ((((16 : Int32) * v5) + v1).toNatClampNeg) (((gI σ 2 v3.toNatClampNeg) - (gI σ 2 v2.toNatClampNeg)).toInt64)) 3 v3.toNatClampNeg) - (gI (wL σ 12 ((((16 : Int32) * v5) + v1).toNatClampNeg) (((gI σ 2 v3.toNatClampNeg) - (gI σ 2 v2.toNatClampNeg)).toInt64)) 3 v2.toNatClampNeg)).toInt64)) (v1 + (1 : Int32)) h)
set_option maxRecDepth 100000 in
set_option maxHeartbeats 4000000 in
theorem t_X11_stresses_85 {χ : Mem} {T : Nat → Mem} (C : Cx p s m args meth c cX11_stresses 6 RX11 (some .int) COM g) {rr : Mem × Int32} : ∀ (n : Nat) (σ : Mem) (v1 : Int32) (h : f_X11_stresses_85 n σ v1 = some rr), JJ p l e rm_X11_stresses s m args below meth c 6 g ad (MQ below (PoI g ad χ T (rr.1) rr.2) args s 0 0 (geB g)) χ T σ 0 0 [(0, .ref (ad 30 0)), (1, .int v1)] 85 [] := by
  intro n
  induction n with
  | zero => intro  σ v1  h; cases h
  | succ n ih =>
  intro  σ v1  h
  rw [f_X11_stresses_85] at h
  refine j_iload_n C 1 rfl rfl dX11_stresses_85 ?_
  refine j_aload_n C 0 rfl rfl dX11_stresses_86 ?_
  refine j_getG C in_X11 (by decide) cw_30 rfl 14 (by decide) mw_1019 (fun _ h => h) rfl dX11_stresses_87 ?_
  refine j_icmp_ge (tgt := 257) C (by decide) dX11_stresses_90 (fun hc1 => ?_) (fun hc1 => ?_)
  · replace h := (if_pos hc1).symm.trans h
    refine j_iconst (v := 0) C (by decide) dX11_stresses_257 ?_
    refine j_istore_n (L' := [(1, .int (0 : Int32)), (0, .ref (ad 30 0))]) C rfl (by decide) rfl dX11_stresses_258 ?_
    exact j_sub [1, 0] rfl (t_X11_stresses_259 C FU σ (0 : Int32) h)
  · replace h := (if_neg hc1).symm.trans h
    refine j_aload_n C 0 rfl rfl dX11_stresses_93 ?_
    refine j_getG C in_X11 (by decide) cw_30 rfl 8 (by decide) mw_1013 (fun _ h => h) rfl dX11_stresses_94 ?_
    refine j_aload_n C 0 rfl rfl dX11_stresses_97 ?_
    refine j_getG C in_X11 (by decide) cw_30 rfl 17 (by decide) mw_1022 (fun _ h => h) rfl dX11_stresses_98 ?_
    refine j_iload_n C 1 rfl rfl dX11_stresses_101 ?_
    obtain ⟨hg2, h⟩ := gd_some h
    refine j_iald C (by decide) cw_31_17 hg2 dX11_stresses_102 ?_
    obtain ⟨hg3, h⟩ := gd_some h
    refine j_iald C (by decide) cw_31_8 hg3 dX11_stresses_103 ?_
    refine j_istore_n (L' := [(2, .int (gI σ 8 (gI σ 17 v1.toNatClampNeg).toNatClampNeg)), (0, .ref (ad 30 0)), (1, .int v1)]) C rfl (by decide) rfl dX11_stresses_104 ?_
    refine j_aload_n C 1 rfl rfl dX11_stresses_105 ?_
    refine j_getG C in_X11 (by decide) cw_30 rfl 9 (by decide) mw_1014 (fun _ h => h) rfl dX11_stresses_106 ?_
    refine j_aload_n C 1 rfl rfl dX11_stresses_109 ?_
    refine j_getG C in_X11 (by decide) cw_30 rfl 17 (by decide) mw_1022 (fun _ h => h) rfl dX11_stresses_110 ?_
    refine j_iload_n C 2 rfl rfl dX11_stresses_113 ?_
    refine j_iald C (by decide) cw_31_17 hg2 dX11_stresses_114 ?_
    refine j_iald C (by decide) cw_31_9 hg3 dX11_stresses_115 ?_
    refine j_istore_n (L' := [(3, .int (gI σ 9 (gI σ 17 v1.toNatClampNeg).toNatClampNeg)), (2, .int (gI σ 8 (gI σ 17 v1.toNatClampNeg).toNatClampNeg)), (0, .ref (ad 30 0)), (1, .int v1)]) C rfl (by decide) rfl dX11_stresses_116 ?_
    refine j_aload_n C 2 rfl rfl dX11_stresses_117 ?_
    refine j_iload_n C 1 rfl rfl dX11_stresses_118 ?_
    obtain ⟨q4, hq4, h⟩ := bi_some h
    refine j_callVi (As := [.int (gI σ 8 (gI σ 17 v1.toNatClampNeg).toNatClampNeg)]) (rest := []) C (c_X11_freeColumn hq4) (cwV 1 C.ts (good_V mw_1161 mw_1163 mw_42 mw_73 mw_1164) rfl rfl rfl (by decide +kernel) ⟨Nat.le_of_ble_eq_true rfl, Nat.le_of_ble_eq_true rfl⟩) (fun H hW => CW.rv C.k hW (by decide) cw_30 rfl) rfl rfl (Nat.le_of_ble_eq_true rfl) dX11_stresses_119 ⟨Nat.zero_le _, Nat.zero_le _⟩ ?_
    refine j_istore (L' := [(4, .int q4), (3, .int (gI σ 9 (gI σ 17 v1.toNatClampNeg).toNatClampNeg)), (2, .int (gI σ 8 (gI σ 17 v1.toNatClampNeg).toNatClampNeg)), (0, .ref (ad 30 0)), (1, .int v1)]) C (by decide) rfl dX11_stresses_122 ?_
    refine j_aload_n C 3 rfl rfl dX11_stresses_124 ?_
    refine j_iload_n C 1 rfl rfl dX11_stresses_125 ?_
    obtain ⟨q5, hq5, h⟩ := bi_some h
    refine j_callVi (As := [.int (gI σ 9 (gI σ 17 v1.toNatClampNeg).toNatClampNeg)]) (rest := []) C (c_X11_freeColumn hq5) (cwV 1 C.ts (good_V mw_1161 mw_1163 mw_42 mw_73 mw_1164) rfl rfl rfl (by decide +kernel) ⟨Nat.le_of_ble_eq_true rfl, Nat.le_of_ble_eq_true rfl⟩) (fun H hW => CW.rv C.k hW (by decide) cw_30 rfl) rfl rfl (Nat.le_of_ble_eq_true rfl) dX11_stresses_126 ⟨Nat.zero_le _, Nat.zero_le _⟩ ?_
    refine j_istore (L' := [(5, .int q5), (4, .int q4), (3, .int (gI σ 9 (gI σ 17 v1.toNatClampNeg).toNatClampNeg)), (2, .int (gI σ 8 (gI σ 17 v1.toNatClampNeg).toNatClampNeg)), (0, .ref (ad 30 0)), (1, .int v1)]) C (by decide) rfl dX11_stresses_129 ?_
    refine j_iload C 1 rfl dX11_stresses_131 ?_
    refine j_iconst (v := -1) C (by decide) dX11_stresses_133 ?_
    refine j_icmp_eq (tgt := 191) C (by decide) dX11_stresses_134 (fun hc6 => ?_) (fun hc6 => ?_)
    · replace h := (if_pos hc6).symm.trans h
      exact j_sub [4, 5, 3, 2, 0] rfl (t_X11_stresses_191 C ih σ v1 (gI σ 8 (gI σ 17 v1.toNatClampNeg).toNatClampNeg) (gI σ 9 (gI σ 17 v1.toNatClampNeg).toNatClampNeg) q5 h)
    · replace h := (if_neg hc6).symm.trans h
      refine j_aload_n C 4 rfl rfl dX11_stresses_137 ?_
      refine j_getG C in_X11 (by decide) cw_30 rfl 12 (by decide) mw_1017 (fun _ h => h) rfl dX11_stresses_138 ?_
      refine j_bipush (v := 16) C (by decide) dX11_stresses_141 ?_
      refine j_iload C 1 rfl dX11_stresses_143 ?_
      refine j_imul C dX11_stresses_145 ?_
      refine j_iload_n C 5 rfl rfl dX11_stresses_146 ?_
      refine j_iadd C dX11_stresses_147 ?_
      refine j_aload_n C 4 rfl rfl dX11_stresses_148 ?_
      refine j_getG C in_X11 (by decide) cw_30 rfl 2 (by decide) mw_1007 (fun _ h => h) rfl dX11_stresses_149 ?_
      refine j_iload_n C 3 rfl rfl dX11_stresses_152 ?_
      obtain ⟨hg7, h⟩ := gd_some h
      refine j_iald C (by decide) cw_31_2 hg7 dX11_stresses_153 ?_
      refine j_aload_n C 4 rfl rfl dX11_stresses_154 ?_
      refine j_getG C in_X11 (by decide) cw_30 rfl 2 (by decide) mw_1007 (fun _ h => h) rfl dX11_stresses_155 ?_
      refine j_iload_n C 2 rfl rfl dX11_stresses_158 ?_
      obtain ⟨hg8, h⟩ := gd_some h
      refine j_iald C (by decide) cw_31_2 hg8 dX11_stresses_159 ?_
      refine j_isub C dX11_stresses_160 ?_
      refine j_i2l C dX11_stresses_161 ?_
      obtain ⟨hg9, h⟩ := gd_some h
      refine j_lastP C (by decide) (po_M_m ((((16 : Int32) * q4) + v1).toNatClampNeg) (((gI σ 2 (gI σ 8 (gI σ 17 v1.toNatClampNeg).toNatClampNeg).toNatClampNeg) - (gI σ 2 (gI σ 9 (gI σ 17 v1.toNatClampNeg).toNatClampNeg).toNatClampNeg)).toInt64)) hg9 dX11_stresses_162 ?_
      refine j_aload_n C 4 rfl rfl dX11_stresses_163 ?_
      refine j_getG C in_X11 (by decide) cw_30 rfl 12 (by decide) mw_1017 (fun _ h => h) rfl dX11_stresses_164 ?_
      refine j_bipush (v := 16) C (by decide) dX11_stresses_167 ?_
      refine j_iload C 1 rfl dX11_stresses_169 ?_
      refine j_iconst (v := 1) C (by decide) dX11_stresses_171 ?_
      refine j_iadd C dX11_stresses_172 ?_
      refine j_imul C dX11_stresses_173 ?_
      refine j_iload_n C 5 rfl rfl dX11_stresses_174 ?_
      refine j_iadd C dX11_stresses_175 ?_
      refine j_aload_n C 4 rfl rfl dX11_stresses_176 ?_
      refine j_getG C in_X11 (by decide) cw_30 rfl 3 (by decide) mw_1008 (fun _ h => h) rfl dX11_stresses_177 ?_
      refine j_iload_n C 3 rfl rfl dX11_stresses_180 ?_
      refine j_iald C (by decide) cw_31_3 hg7 dX11_stresses_181 ?_
      refine j_aload_n C 4 rfl rfl dX11_stresses_182 ?_
      refine j_getG C in_X11 (by decide) cw_30 rfl 3 (by decide) mw_1008 (fun _ h => h) rfl dX11_stresses_183 ?_
      refine j_iload_n C 2 rfl rfl dX11_stresses_186 ?_
      refine j_iald C (by decide) cw_31_3 hg8 dX11_stresses_187 ?_
      refine j_isub C dX11_stresses_188 ?_
      refine j_i2l C dX11_stresses_189 ?_
      obtain ⟨hg10, h⟩ := gd_some h
      refine j_lastP C (by decide) (po_M_m ((((16 : Int32) * (q4 + (1 : Int32))) + v1).toNatClampNeg) (((gI (wL σ 12 ((((16 : Int32) * q4) + v1).toNatClampNeg) (((gI σ 2 (gI σ 8 (gI σ 17 v1.toNatClampNeg).toNatClampNeg).toNatClampNeg) - (gI σ 2 (gI σ 9 (gI σ 17 v1.toNatClampNeg).toNatClampNeg).toNatClampNeg)).toInt64)) 3 (gI σ 8 (gI σ 17 v1.toNatClampNeg).toNatClampNeg).toNatClampNeg) - (gI (wL σ 12 ((((16 : Int32) * q4) + v1).toNatClampNeg) (((gI σ 2 (gI σ 8 (gI σ 17 v1.toNatClampNeg).toNatClampNeg).toNatClampNeg) - (gI σ 2 (gI σ 9 (gI σ 17 v1.toNatClampNeg).toNatClampNeg).toNatClampNeg)).toInt64)) 3 (gI σ 9 (gI σ 17 v1.toNatClampNeg).toNatClampNeg).toNatClampNeg)).toInt64)) hg10 dX11_stresses_190 ?_
      exact j_sub [4, 5, 3, 2, 0] rfl (t_X11_stresses_191 C ih (wL (wL σ 12 ((((16 : Int32) * q4) + v1).toNatClampNeg) (((gI σ 2 (gI σ 8 (gI σ 17 v1.toNatClampNeg).toNatClampNeg).toNatClampNeg) - (gI σ 2 (gI σ 9 (gI σ 17 v1.toNatClampNeg).toNatClampNeg).toNatClampNeg)).toInt64)) 12 ((((16 : Int32) * (q4 + (1 : Int32))) + v1).toNatClampNeg) (((gI (wL σ 12 ((((16 : Int32) * q4) + v1).toNatClampNeg) (((gI σ 2 (gI σ 8 (gI σ 17 v1.toNatClampNeg).toNatClampNeg).toNatClampNeg) - (gI σ 2 (gI σ 9 (gI σ 17 v1.toNatClampNeg).toNatClampNeg).toNatClampNeg)).toInt64)) 3 (gI σ 8 (gI σ 17 v1.toNatClampNeg).toNatClampNeg).toNatClampNeg) - (gI (wL σ 12 ((((16 : Int32) * q4) + v1).toNatClampNeg) (((gI σ 2 (gI σ 8 (gI σ 17 v1.toNatClampNeg).toNatClampNeg).toNatClampNeg) - (gI σ 2 (gI σ 9 (gI σ 17 v1.toNatClampNeg).toNatClampNeg).toNatClampNeg)).toInt64)) 3 (gI σ 9 (gI σ 17 v1.toNatClampNeg).toNatClampNeg).toNatClampNeg)).toInt64)) v1 (gI σ 8 (gI σ 17 v1.toNatClampNeg).toNatClampNeg) (gI σ 9 (gI σ 17 v1.toNatClampNeg).toNatClampNeg) q5 h)
set_option maxRecDepth 100000 in
set_option maxHeartbeats 4000000 in
theorem t_X11_stresses_59 {χ : Mem} {T : Nat → Mem} (C : Cx p s m args meth c cX11_stresses 6 RX11 (some .int) COM g) {rr : Mem × Int32} : ∀ (n : Nat) (σ : Mem) (v1 : Int32) (h : f_X11_stresses_59 n σ v1 = some rr), JJ p l e rm_X11_stresses s m args below meth c 6 g ad (MQ below (PoI g ad χ T (rr.1) rr.2) args s 0 0 (geB g)) χ T σ 0 0 [(0, .ref (ad 30 0)), (1, .int v1)] 59 [] := by
  intro n
  induction n with
  | zero => intro  σ v1  h; cases h
  | succ n ih =>
  intro  σ v1  h
  rw [f_X11_stresses_59] at h
  refine j_iload_n C 1 rfl rfl dX11_stresses_59 ?_
  refine j_bipush (v := 16) C (by decide) dX11_stresses_60 ?_
  refine j_aload_n C 0 rfl rfl dX11_stresses_62 ?_
  refine j_getG C in_X11 (by decide) cw_30 rfl 13 (by decide) mw_1018 (fun _ h => h) rfl dX11_stresses_63 ?_
  refine j_imul C dX11_stresses_66 ?_
  refine j_icmp_ge (tgt := 83) C (by decide) dX11_stresses_67 (fun hc1 => ?_) (fun hc1 => ?_)
  · replace h := (if_pos hc1).symm.trans h
    refine j_iconst (v := 0) C (by decide) dX11_stresses_83 ?_
    refine j_istore_n (L' := [(1, .int (0 : Int32)), (0, .ref (ad 30 0))]) C rfl (by decide) rfl dX11_stresses_84 ?_
    exact j_sub [1, 0] rfl (t_X11_stresses_85 C FU σ (0 : Int32) h)
  · replace h := (if_neg hc1).symm.trans h
    refine j_aload_n C 0 rfl rfl dX11_stresses_70 ?_
    refine j_getG C in_X11 (by decide) cw_30 rfl 12 (by decide) mw_1017 (fun _ h => h) rfl dX11_stresses_71 ?_
    refine j_iload_n C 1 rfl rfl dX11_stresses_74 ?_
    refine j_lconst (v := 0) C (by decide) dX11_stresses_75 ?_
    obtain ⟨hg2, h⟩ := gd_some h
    refine j_lastP C (by decide) (po_M_m v1.toNatClampNeg (0 : Int64)) hg2 dX11_stresses_76 ?_
    refine j_iinc (v := v1 + (1 : Int32)) (L' := [(1, .int (v1 + (1 : Int32))), (0, .ref (ad 30 0))]) C 1 rfl rfl (by decide) rfl dX11_stresses_77 ?_
    refine j_goto (tgt := 59) C (by decide) dX11_stresses_80 ?_
    exact j_sub [1, 0] rfl (ih (wL σ 12 v1.toNatClampNeg (0 : Int64)) (v1 + (1 : Int32)) h)
set_option maxRecDepth 100000 in
set_option maxHeartbeats 4000000 in
theorem t_X11_stresses_17 {χ : Mem} {T : Nat → Mem} (C : Cx p s m args meth c cX11_stresses 6 RX11 (some .int) COM g) {rr : Mem × Int32} : ∀ (n : Nat) (σ : Mem) (v1 : Int32) (h : f_X11_stresses_17 n σ v1 = some rr), JJ p l e rm_X11_stresses s m args below meth c 6 g ad (MQ below (PoI g ad χ T (rr.1) rr.2) args s 0 0 (geB g)) χ T σ 0 0 [(0, .ref (ad 30 0)), (1, .int v1)] 17 [] := by
  intro n
  induction n with
  | zero => intro  σ v1  h; cases h
  | succ n ih =>
  intro  σ v1  h
  rw [f_X11_stresses_17] at h
  refine j_iload_n C 1 rfl rfl dX11_stresses_17 ?_
  refine j_aload_n C 0 rfl rfl dX11_stresses_18 ?_
  refine j_getG C in_X11 (by decide) cw_30 rfl 1 (by decide) mw_1006 (fun _ h => h) rfl dX11_stresses_19 ?_
  refine j_icmp_ge (tgt := 57) C (by decide) dX11_stresses_22 (fun hc1 => ?_) (fun hc1 => ?_)
  · replace h := (if_pos hc1).symm.trans h
    refine j_iconst (v := 0) C (by decide) dX11_stresses_57 ?_
    refine j_istore_n (L' := [(1, .int (0 : Int32)), (0, .ref (ad 30 0))]) C rfl (by decide) rfl dX11_stresses_58 ?_
    exact j_sub [1, 0] rfl (t_X11_stresses_59 C FU σ (0 : Int32) h)
  · replace h := (if_neg hc1).symm.trans h
    refine j_aload_n C 0 rfl rfl dX11_stresses_25 ?_
    refine j_getG C in_X11 (by decide) cw_30 rfl 11 (by decide) mw_1016 (fun _ h => h) rfl dX11_stresses_26 ?_
    refine j_iload_n C 1 rfl rfl dX11_stresses_29 ?_
    obtain ⟨hg2, h⟩ := gd_some h
    refine j_zald C (by decide) cw_31_11 hg2 dX11_stresses_30 ?_
    refine j_if_eq (tgt := 51) C (by decide) dX11_stresses_31 (fun hc3 => ?_) (fun hc3 => ?_)
    · replace h := (if_pos hc3).symm.trans h
      refine j_iinc (v := v1 + (1 : Int32)) (L' := [(1, .int (v1 + (1 : Int32))), (0, .ref (ad 30 0))]) C 1 rfl rfl (by decide) rfl dX11_stresses_51 ?_
      refine j_goto (tgt := 17) C (by decide) dX11_stresses_54 ?_
      exact j_sub [1, 0] rfl (ih σ (v1 + (1 : Int32)) h)
    · replace h := (if_neg hc3).symm.trans h
      refine j_aload_n C 0 rfl rfl dX11_stresses_34 ?_
      refine j_getG C in_X11 (by decide) cw_30 rfl 17 (by decide) mw_1022 (fun _ h => h) rfl dX11_stresses_35 ?_
      refine j_aload_n C 0 rfl rfl dX11_stresses_38 ?_
      refine j_dup C rfl dX11_stresses_39 ?_
      refine j_getG C in_X11 (by decide) cw_30 rfl 14 (by decide) mw_1019 (fun _ h => h) rfl dX11_stresses_40 ?_
      refine j_dup_x1 C rfl rfl dX11_stresses_43 ?_
      refine j_iconst (v := 1) C (by decide) dX11_stresses_44 ?_
      refine j_iadd C dX11_stresses_45 ?_
      refine j_putI C in_X11 tyX11_ok nmX11 rfl 14 (by decide) (by decide) (po_M_columns ((gI σ 14 0) + (1 : Int32))) mw_1019 (fun _ h => h) rfl (tyX11_ok 14 (by decide)) (Nat.le_of_ble_eq_true rfl) dX11_stresses_46 ?_
      refine j_iload_n C 1 rfl rfl dX11_stresses_49 ?_
      obtain ⟨hg4, h⟩ := gd_some h
      refine j_iastP C (by decide) (po_M_columnRod ((gI σ 14 0).toNatClampNeg) v1) hg4 dX11_stresses_50 ?_
      refine j_iinc (v := v1 + (1 : Int32)) (L' := [(1, .int (v1 + (1 : Int32))), (0, .ref (ad 30 0))]) C 1 rfl rfl (by decide) rfl dX11_stresses_51 ?_
      refine j_goto (tgt := 17) C (by decide) dX11_stresses_54 ?_
      exact j_sub [1, 0] rfl (ih (wI (wI σ 14 0 ((gI σ 14 0) + (1 : Int32))) 17 ((gI σ 14 0).toNatClampNeg) v1) (v1 + (1 : Int32)) h)
set_option maxRecDepth 100000 in
set_option maxHeartbeats 4000000 in
theorem t_X11_stresses_0 {χ : Mem} {T : Nat → Mem} (C : Cx p s m args meth c cX11_stresses 6 RX11 (some .int) COM g) {rr : Mem × Int32} (σ : Mem) (h : f_X11_stresses_0 σ = some rr) : JJ p l e rm_X11_stresses s m args below meth c 6 g ad (MQ below (PoI g ad χ T (rr.1) rr.2) args s 0 0 (geB g)) χ T σ 0 0 [(0, .ref (ad 30 0))] 0 [] := by
  rw [f_X11_stresses_0] at h
  refine j_aload_n C 0 rfl rfl dX11_stresses_0 ?_
  refine j_iconst (v := 2) C (by decide) dX11_stresses_1 ?_
  refine j_aload_n C 0 rfl rfl dX11_stresses_2 ?_
  obtain ⟨q1, hq1, h⟩ := bi_some h
  refine j_callVi (As := []) (rest := [.int (2 : Int32), .ref (ad 30 0)]) C (c_X11_freePins hq1) (cwV 0 C.ts (good_V mw_1141 mw_1143 mw_37 mw_73 mw_1144) rfl rfl rfl (by decide +kernel) ⟨Nat.le_of_ble_eq_true rfl, Nat.le_of_ble_eq_true rfl⟩) (fun H hW => CW.rv C.k hW (by decide) cw_30 rfl) rfl rfl (Nat.le_of_ble_eq_true rfl) dX11_stresses_3 ⟨Nat.zero_le _, Nat.zero_le _⟩ ?_
  refine j_imul C dX11_stresses_6 ?_
  refine j_putI C in_X11 tyX11_ok nmX11 rfl 13 (by decide) (by decide) (po_M_rows ((2 : Int32) * q1)) mw_1018 (fun _ h => h) rfl (tyX11_ok 13 (by decide)) (Nat.le_of_ble_eq_true rfl) dX11_stresses_7 ?_
  refine j_aload_n C 0 rfl rfl dX11_stresses_10 ?_
  refine j_iconst (v := 0) C (by decide) dX11_stresses_11 ?_
  refine j_putI C in_X11 tyX11_ok nmX11 rfl 14 (by decide) (by decide) (po_M_columns (0 : Int32)) mw_1019 (fun _ h => h) rfl (tyX11_ok 14 (by decide)) (Nat.le_of_ble_eq_true rfl) dX11_stresses_12 ?_
  refine j_iconst (v := 0) C (by decide) dX11_stresses_15 ?_
  refine j_istore_n (L' := [(1, .int (0 : Int32)), (0, .ref (ad 30 0))]) C rfl (by decide) rfl dX11_stresses_16 ?_
  exact j_sub [1, 0] rfl (t_X11_stresses_17 C FU (wI (wI σ 13 0 ((2 : Int32) * q1)) 14 0 (0 : Int32)) (0 : Int32) h)
set_option maxRecDepth 100000 in
set_option maxHeartbeats 4000000 in
theorem c_X11_stresses {l : Launch} {g : Gc} {ad : Nat → Nat → Nat} {χ : Mem} {T : Nat → Mem} {σ : Mem} {rr : Mem × Int32} (h : f_X11_stresses σ = some rr) : Met l yX11_stresses (WS yX11_stresses cX11_stresses 6 (some .int)) rm_X11_stresses (PreW g ad χ T σ [.ref (ad 30 0)]) (PoI g ad χ T (rr.1) rr.2) 0 0 (geB g) := by
  refine j_metW (by decide) (Nat.le_of_ble_eq_true rfl) fun p e s m below meth c C hname => ?_
  rw [f_X11_stresses] at h
  exact j_sub [0] rfl (t_X11_stresses_0 C σ h)
set_option maxRecDepth 100000 in
set_option maxHeartbeats 4000000 in
theorem t_X11_columnOf_2 {χ : Mem} {T : Nat → Mem} {σ : Mem} (C : Cx p s m args meth c cX11_columnOf 3 RX11 (some .int) COM g) {rr : Int32} : ∀ (n : Nat) (v1 : Int32) (v2 : Int32) (h : f_X11_columnOf_2 σ n v1 v2 = some rr), JJ p l e rm_X11_columnOf s m args below meth c 3 g ad (MQ below (PoI g ad χ T σ rr) args s 0 0 (geB g)) χ T σ 0 0 [(0, .ref (ad 30 0)), (1, .int v1), (2, .int v2)] 2 [] := by
  intro n
  induction n with
  | zero => intro  v1 v2  h; cases h
  | succ n ih =>
  intro  v1 v2  h
  rw [f_X11_columnOf_2] at h
  refine j_iload_n C 2 rfl rfl dX11_columnOf_2 ?_
  refine j_aload_n C 0 rfl rfl dX11_columnOf_3 ?_
  refine j_getG C in_X11 (by decide) cw_30 rfl 14 (by decide) mw_1019 (fun _ h => h) rfl dX11_columnOf_4 ?_
  refine j_icmp_ge (tgt := 28) C (by decide) dX11_columnOf_7 (fun hc1 => ?_) (fun hc1 => ?_)
  · replace h := (if_pos hc1).symm.trans h
    refine j_iconst (v := -1) C (by decide) dX11_columnOf_28 ?_
    obtain rfl := Option.some.inj h
    exact j_iret C rfl rfl (Nat.le_refl _) (Nat.le_refl _) dX11_columnOf_29
  · replace h := (if_neg hc1).symm.trans h
    refine j_aload_n C 0 rfl rfl dX11_columnOf_10 ?_
    refine j_getG C in_X11 (by decide) cw_30 rfl 17 (by decide) mw_1022 (fun _ h => h) rfl dX11_columnOf_11 ?_
    refine j_iload_n C 2 rfl rfl dX11_columnOf_14 ?_
    obtain ⟨hg2, h⟩ := gd_some h
    refine j_iald C (by decide) cw_31_17 hg2 dX11_columnOf_15 ?_
    refine j_iload_n C 1 rfl rfl dX11_columnOf_16 ?_
    refine j_icmp_ne (tgt := 22) C (by decide) dX11_columnOf_17 (fun hc3 => ?_) (fun hc3 => ?_)
    · replace h := (if_neg hc3).symm.trans h
      refine j_iinc (v := v2 + (1 : Int32)) (L' := [(2, .int (v2 + (1 : Int32))), (0, .ref (ad 30 0)), (1, .int v1)]) C 2 rfl rfl (by decide) rfl dX11_columnOf_22 ?_
      refine j_goto (tgt := 2) C (by decide) dX11_columnOf_25 ?_
      exact j_sub [1, 2, 0] rfl (ih v1 (v2 + (1 : Int32)) h)
    · replace h := (if_pos hc3).symm.trans h
      refine j_iload_n C 2 rfl rfl dX11_columnOf_20 ?_
      obtain rfl := Option.some.inj h
      exact j_iret C rfl rfl (Nat.le_refl _) (Nat.le_refl _) dX11_columnOf_21
set_option maxRecDepth 100000 in
set_option maxHeartbeats 4000000 in
theorem t_X11_columnOf_0 {χ : Mem} {T : Nat → Mem} {σ : Mem} (C : Cx p s m args meth c cX11_columnOf 3 RX11 (some .int) COM g) {rr : Int32} (a1 : Int32) (h : f_X11_columnOf_0 σ a1 = some rr) : JJ p l e rm_X11_columnOf s m args below meth c 3 g ad (MQ below (PoI g ad χ T σ rr) args s 0 0 (geB g)) χ T σ 0 0 [(0, .ref (ad 30 0)), (1, .int a1)] 0 [] := by
  rw [f_X11_columnOf_0] at h
  refine j_iconst (v := 0) C (by decide) dX11_columnOf_0 ?_
  refine j_istore_n (L' := [(2, .int (0 : Int32)), (0, .ref (ad 30 0)), (1, .int a1)]) C rfl (by decide) rfl dX11_columnOf_1 ?_
  exact j_sub [1, 2, 0] rfl (t_X11_columnOf_2 C FU a1 (0 : Int32) h)
set_option maxRecDepth 100000 in
set_option maxHeartbeats 4000000 in
theorem c_X11_columnOf {l : Launch} {g : Gc} {ad : Nat → Nat → Nat} {χ : Mem} {T : Nat → Mem} {σ : Mem} {a1 : Int32} {rr : Int32} (h : f_X11_columnOf σ a1 = some rr) : Met l yX11_columnOf (WS yX11_columnOf cX11_columnOf 3 (some .int)) rm_X11_columnOf (PreW g ad χ T σ [.ref (ad 30 0), .int a1]) (PoI g ad χ T σ rr) 0 0 (geB g) := by
  refine j_metW (by decide) (Nat.le_of_ble_eq_true rfl) fun p e s m below meth c C hname => ?_
  rw [f_X11_columnOf] at h
  exact j_sub [0, 1] rfl (t_X11_columnOf_0 C a1 h)
set_option maxRecDepth 100000 in
set_option maxHeartbeats 4000000 in
theorem t_X11_carries_36 {χ : Mem} {T : Nat → Mem} {σ : Mem} (C : Cx p s m args meth c cX11_carries 3 RX11 (some .boolean) COM g) {rr : Int32} : ∀ (n : Nat) (v2 : Int32) (h : f_X11_carries_36 σ n v2 = some rr), JJ p l e rm_X11_carries s m args below meth c 3 g ad (MQ below (PoI g ad χ T σ rr) args s 0 0 (geB g)) χ T σ 0 0 [(0, .ref (ad 30 0)), (2, .int v2)] 36 [] := by
  intro n
  induction n with
  | zero => intro  v2  h; cases h
  | succ n ih =>
  intro  v2  h
  rw [f_X11_carries_36] at h
  refine j_iload_n C 1 rfl rfl dX11_carries_36 ?_
  refine j_aload_n C 0 rfl rfl dX11_carries_37 ?_
  refine j_getG C in_X11 (by decide) cw_30 rfl 13 (by decide) mw_1018 (fun _ h => h) rfl dX11_carries_38 ?_
  refine j_icmp_ge (tgt := 71) C (by decide) dX11_carries_41 (fun hc1 => ?_) (fun hc1 => ?_)
  · replace h := (if_pos hc1).symm.trans h
    refine j_iconst (v := 1) C (by decide) dX11_carries_71 ?_
    obtain rfl := Option.some.inj h
    exact j_iret C rfl (bo_nar (Or.inr rfl)) (Nat.le_refl _) (Nat.le_refl _) dX11_carries_72
  · replace h := (if_neg hc1).symm.trans h
    refine j_aload_n C 0 rfl rfl dX11_carries_44 ?_
    refine j_getG C in_X11 (by decide) cw_30 rfl 12 (by decide) mw_1017 (fun _ h => h) rfl dX11_carries_45 ?_
    refine j_bipush (v := 16) C (by decide) dX11_carries_48 ?_
    refine j_iload_n C 1 rfl rfl dX11_carries_50 ?_
    refine j_imul C dX11_carries_51 ?_
    refine j_aload_n C 0 rfl rfl dX11_carries_52 ?_
    refine j_getG C in_X11 (by decide) cw_30 rfl 14 (by decide) mw_1019 (fun _ h => h) rfl dX11_carries_53 ?_
    refine j_iadd C dX11_carries_56 ?_
    obtain ⟨hg2, h⟩ := gd_some h
    refine j_lald C (by decide) cw_31_12 hg2 dX11_carries_57 ?_
    refine j_lconst (v := 0) C (by decide) dX11_carries_58 ?_
    refine j_lcmp_eq (tgt := 65) C dX11_carries_60 (by decide) dX11_carries_59 (fun hc3 => ?_) (fun hc3 => ?_)
    · replace h := (if_pos hc3).symm.trans h
      refine j_iinc (v := v2 + (1 : Int32)) (L' := [(2, .int (v2 + (1 : Int32))), (0, .ref (ad 30 0))]) C 1 rfl rfl (by decide) rfl dX11_carries_65 ?_
      refine j_goto (tgt := 36) C (by decide) dX11_carries_68 ?_
      exact j_sub [1, 0] rfl (ih (v2 + (1 : Int32)) h)
    · replace h := (if_neg hc3).symm.trans h
      refine j_iconst (v := 0) C (by decide) dX11_carries_63 ?_
      obtain rfl := Option.some.inj h
      exact j_iret C rfl (bo_nar (Or.inl rfl)) (Nat.le_refl _) (Nat.le_refl _) dX11_carries_64
set_option maxRecDepth 100000 in
set_option maxHeartbeats 4000000 in
theorem t_X11_carries_7 {χ : Mem} {T : Nat → Mem} {σ : Mem} (C : Cx p s m args meth c cX11_carries 3 RX11 (some .boolean) COM g) {rr : Int32} : ∀ (n : Nat) (v1 : Int32) (v2 : Int32) (h : f_X11_carries_7 σ n v1 v2 = some rr), JJ p l e rm_X11_carries s m args below meth c 3 g ad (MQ below (PoI g ad χ T σ rr) args s 0 0 (geB g)) χ T σ 0 0 [(0, .ref (ad 30 0)), (1, .int v1), (2, .int v2)] 7 [] := by
  intro n
  induction n with
  | zero => intro  v1 v2  h; cases h
  | succ n ih =>
  intro  v1 v2  h
  rw [f_X11_carries_7] at h
  refine j_iload_n C 2 rfl rfl dX11_carries_7 ?_
  refine j_aload_n C 0 rfl rfl dX11_carries_8 ?_
  refine j_getG C in_X11 (by decide) cw_30 rfl 14 (by decide) mw_1019 (fun _ h => h) rfl dX11_carries_9 ?_
  refine j_icmp_ge (tgt := 34) C (by decide) dX11_carries_12 (fun hc1 => ?_) (fun hc1 => ?_)
  · replace h := (if_pos hc1).symm.trans h
    refine j_iload_n C 1 rfl rfl dX11_carries_34 ?_
    refine j_istore_n (L' := [(2, .int v1), (0, .ref (ad 30 0)), (1, .int v1)]) C rfl (by decide) rfl dX11_carries_35 ?_
    exact j_sub [1, 0] rfl (t_X11_carries_36 C FU v1 h)
  · replace h := (if_neg hc1).symm.trans h
    refine j_aload_n C 0 rfl rfl dX11_carries_15 ?_
    refine j_getG C in_X11 (by decide) cw_30 rfl 15 (by decide) mw_1020 (fun _ h => h) rfl dX11_carries_16 ?_
    refine j_iload_n C 2 rfl rfl dX11_carries_19 ?_
    obtain ⟨hg2, h⟩ := gd_some h
    refine j_iald C (by decide) cw_31_15 hg2 dX11_carries_20 ?_
    refine j_iconst (v := -1) C (by decide) dX11_carries_21 ?_
    refine j_icmp_ne (tgt := 28) C (by decide) dX11_carries_22 (fun hc3 => ?_) (fun hc3 => ?_)
    · replace h := (if_neg hc3).symm.trans h
      refine j_iinc (v := v2 + (1 : Int32)) (L' := [(2, .int (v2 + (1 : Int32))), (0, .ref (ad 30 0)), (1, .int v1)]) C 2 rfl rfl (by decide) rfl dX11_carries_28 ?_
      refine j_goto (tgt := 7) C (by decide) dX11_carries_31 ?_
      exact j_sub [1, 2, 0] rfl (ih v1 (v2 + (1 : Int32)) h)
    · replace h := (if_pos hc3).symm.trans h
      refine j_iinc (v := v1 + (-1 : Int32)) (L' := [(1, .int (v1 + (-1 : Int32))), (0, .ref (ad 30 0)), (2, .int v2)]) C 1 rfl (congrArg (fun z => v1 + z) (by decide)) (by decide) rfl dX11_carries_25 ?_
      refine j_iinc (v := v2 + (1 : Int32)) (L' := [(2, .int (v2 + (1 : Int32))), (1, .int (v1 + (-1 : Int32))), (0, .ref (ad 30 0))]) C 2 rfl rfl (by decide) rfl dX11_carries_28 ?_
      refine j_goto (tgt := 7) C (by decide) dX11_carries_31 ?_
      exact j_sub [2, 1, 0] rfl (ih (v1 + (-1 : Int32)) (v2 + (1 : Int32)) h)
set_option maxRecDepth 100000 in
set_option maxHeartbeats 4000000 in
theorem t_X11_carries_0 {χ : Mem} {T : Nat → Mem} {σ : Mem} (C : Cx p s m args meth c cX11_carries 3 RX11 (some .boolean) COM g) {rr : Int32} (h : f_X11_carries_0 σ = some rr) : JJ p l e rm_X11_carries s m args below meth c 3 g ad (MQ below (PoI g ad χ T σ rr) args s 0 0 (geB g)) χ T σ 0 0 [(0, .ref (ad 30 0))] 0 [] := by
  rw [f_X11_carries_0] at h
  refine j_aload_n C 0 rfl rfl dX11_carries_0 ?_
  refine j_getG C in_X11 (by decide) cw_30 rfl 14 (by decide) mw_1019 (fun _ h => h) rfl dX11_carries_1 ?_
  refine j_istore_n (L' := [(1, .int (gI σ 14 0)), (0, .ref (ad 30 0))]) C rfl (by decide) rfl dX11_carries_4 ?_
  refine j_iconst (v := 0) C (by decide) dX11_carries_5 ?_
  refine j_istore_n (L' := [(2, .int (0 : Int32)), (1, .int (gI σ 14 0)), (0, .ref (ad 30 0))]) C rfl (by decide) rfl dX11_carries_6 ?_
  exact j_sub [2, 1, 0] rfl (t_X11_carries_7 C FU (gI σ 14 0) (0 : Int32) h)
set_option maxRecDepth 100000 in
set_option maxHeartbeats 4000000 in
theorem c_X11_carries {l : Launch} {g : Gc} {ad : Nat → Nat → Nat} {χ : Mem} {T : Nat → Mem} {σ : Mem} {rr : Int32} (h : f_X11_carries σ = some rr) : Met l yX11_carries (WS yX11_carries cX11_carries 3 (some .boolean)) rm_X11_carries (PreW g ad χ T σ [.ref (ad 30 0)]) (PoI g ad χ T σ rr) 0 0 (geB g) := by
  refine j_metW (by decide) (Nat.le_of_ble_eq_true rfl) fun p e s m below meth c C hname => ?_
  rw [f_X11_carries] at h
  exact j_sub [0] rfl (t_X11_carries_0 C h)
set_option maxRecDepth 100000 in
set_option maxHeartbeats 4000000 in
theorem t_X11_isNeeded_25 {χ : Mem} {T : Nat → Mem} (C : Cx p s m args meth c cX11_isNeeded 5 RX11 (some .boolean) COM g) {rr : Mem × Int32} : ∀ (n : Nat) (σ : Mem) (v2 : Int32) (v3 : Int32) (v4 : Int32) (h : f_X11_isNeeded_25 n σ v2 v3 v4 = some rr), JJ p l e rm_X11_isNeeded s m args below meth c 5 g ad (MQ below (PoI g ad χ T (rr.1) rr.2) args s 0 0 (geB g)) χ T σ 0 0 [(0, .ref (ad 30 0)), (2, .int v2), (3, .int v3), (4, .int v4)] 25 [] := by
  intro n
  induction n with
  | zero => intro  σ v2 v3 v4  h; cases h
  | succ n ih =>
  intro  σ v2 v3 v4  h
  rw [f_X11_isNeeded_25] at h
  refine j_iload C 3 rfl dX11_isNeeded_25 ?_
  refine j_iload_n C 1 rfl rfl dX11_isNeeded_27 ?_
  refine j_icmp_ge (tgt := 60) C (by decide) dX11_isNeeded_28 (fun hc1 => ?_) (fun hc1 => ?_)
  · replace h := (if_pos hc1).symm.trans h
    refine j_iconst (v := 1) C (by decide) dX11_isNeeded_60 ?_
    obtain rfl := Option.some.inj h
    exact j_iret C rfl (bo_nar (Or.inr rfl)) (Nat.le_refl _) (Nat.le_refl _) dX11_isNeeded_61
  · replace h := (if_neg hc1).symm.trans h
    refine j_aload_n C 0 rfl rfl dX11_isNeeded_31 ?_
    refine j_aload_n C 0 rfl rfl dX11_isNeeded_32 ?_
    refine j_iload C 3 rfl dX11_isNeeded_33 ?_
    obtain ⟨q2, hq2, h⟩ := bi_some h
    refine j_callVi (As := [.int v4]) (rest := [.ref (ad 30 0)]) C (c_X11_loose hq2) (cwV 1 C.ts (good_V mw_1211 mw_1213 mw_53 mw_73 mw_1214) rfl rfl rfl (by decide +kernel) ⟨Nat.le_of_ble_eq_true rfl, Nat.le_of_ble_eq_true rfl⟩) (fun H hW => CW.rv C.k hW (by decide) cw_30 rfl) rfl rfl (Nat.le_of_ble_eq_true rfl) dX11_isNeeded_35 ⟨Nat.zero_le _, Nat.zero_le _⟩ ?_
    obtain ⟨q3, hq3, h⟩ := bi_some h
    refine j_callVv (As := [.int q2]) (rest := []) C (c_X11_nulOf hq3) (cwV 1 C.ts (good_V mw_1215 mw_1217 mw_54 mw_73 mw_1218) rfl rfl rfl (by decide +kernel) ⟨Nat.le_of_ble_eq_true rfl, Nat.le_of_ble_eq_true rfl⟩) (fun H hW => CW.rv C.k hW (by decide) cw_30 rfl) rfl rfl (Nat.le_of_ble_eq_true rfl) dX11_isNeeded_38 ⟨Nat.zero_le _, Nat.zero_le _⟩ ?_
    refine j_aload_n C 0 rfl rfl dX11_isNeeded_41 ?_
    refine j_getG C in_X11 (by decide) cw_30 rfl 16 (by decide) mw_1021 (fun _ h => h) rfl dX11_isNeeded_42 ?_
    refine j_iload_n C 2 rfl rfl dX11_isNeeded_45 ?_
    obtain ⟨hg4, h⟩ := gd_some h
    refine j_lald C (by decide) cw_31_16 hg4 dX11_isNeeded_46 ?_
    refine j_lconst (v := 0) C (by decide) dX11_isNeeded_47 ?_
    refine j_lcmp_eq (tgt := 54) C dX11_isNeeded_49 (by decide) dX11_isNeeded_48 (fun hc5 => ?_) (fun hc5 => ?_)
    · replace h := (if_pos hc5).symm.trans h
      refine j_iinc (v := v4 + (1 : Int32)) (L' := [(4, .int (v4 + (1 : Int32))), (0, .ref (ad 30 0)), (2, .int v2), (3, .int v3)]) C 3 rfl rfl (by decide) rfl dX11_isNeeded_54 ?_
      refine j_goto (tgt := 25) C (by decide) dX11_isNeeded_57 ?_
      exact j_sub [1, 2, 3, 0] rfl (ih q3 v2 v3 (v4 + (1 : Int32)) h)
    · replace h := (if_neg hc5).symm.trans h
      refine j_iconst (v := 0) C (by decide) dX11_isNeeded_52 ?_
      obtain rfl := Option.some.inj h
      exact j_iret C rfl (bo_nar (Or.inl rfl)) (Nat.le_refl _) (Nat.le_refl _) dX11_isNeeded_53
set_option maxRecDepth 100000 in
set_option maxHeartbeats 4000000 in
theorem t_X11_isNeeded_0 {χ : Mem} {T : Nat → Mem} (C : Cx p s m args meth c cX11_isNeeded 5 RX11 (some .boolean) COM g) {rr : Mem × Int32} (σ : Mem) (a1 : Int32) (h : f_X11_isNeeded_0 σ a1 = some rr) : JJ p l e rm_X11_isNeeded s m args below meth c 5 g ad (MQ below (PoI g ad χ T (rr.1) rr.2) args s 0 0 (geB g)) χ T σ 0 0 [(0, .ref (ad 30 0)), (1, .int a1)] 0 [] := by
  rw [f_X11_isNeeded_0] at h
  refine j_aload_n C 0 rfl rfl dX11_isNeeded_0 ?_
  refine j_getG C in_X11 (by decide) cw_30 rfl 11 (by decide) mw_1016 (fun _ h => h) rfl dX11_isNeeded_1 ?_
  refine j_iload_n C 1 rfl rfl dX11_isNeeded_4 ?_
  obtain ⟨hg1, h⟩ := gd_some h
  refine j_zald C (by decide) cw_31_11 hg1 dX11_isNeeded_5 ?_
  refine j_if_ne (tgt := 11) C (by decide) dX11_isNeeded_6 (fun hc2 => ?_) (fun hc2 => ?_)
  · replace h := (if_neg hc2).symm.trans h
    refine j_aload_n C 0 rfl rfl dX11_isNeeded_11 ?_
    obtain ⟨q3, hq3, h⟩ := bi_some h
    refine j_callVi (As := []) (rest := []) C (c_X11_stresses hq3) (cwV 0 C.ts (good_V mw_1176 mw_1178 mw_45 mw_73 mw_1179) rfl rfl rfl (by decide +kernel) ⟨Nat.le_of_ble_eq_true rfl, Nat.le_of_ble_eq_true rfl⟩) (fun H hW => CW.rv C.k hW (by decide) cw_30 rfl) rfl rfl (Nat.le_of_ble_eq_true rfl) dX11_isNeeded_12 ⟨Nat.zero_le _, Nat.zero_le _⟩ ?_
    refine j_istore_n (L' := [(2, .int q3.2), (0, .ref (ad 30 0)), (1, .int a1)]) C rfl (by decide) rfl dX11_isNeeded_15 ?_
    refine j_aload_n C 1 rfl rfl dX11_isNeeded_16 ?_
    refine j_iload_n C 2 rfl rfl dX11_isNeeded_17 ?_
    obtain ⟨q4, hq4, h⟩ := bi_some h
    refine j_callVi (As := [.int a1]) (rest := []) C (c_X11_columnOf hq4) (cwV 1 C.ts (good_V mw_1207 mw_1209 mw_52 mw_73 mw_1210) rfl rfl rfl (by decide +kernel) ⟨Nat.le_of_ble_eq_true rfl, Nat.le_of_ble_eq_true rfl⟩) (fun H hW => CW.rv C.k hW (by decide) cw_30 rfl) rfl rfl (Nat.le_of_ble_eq_true rfl) dX11_isNeeded_18 ⟨Nat.zero_le _, Nat.zero_le _⟩ ?_
    refine j_istore_n (L' := [(3, .int q4), (2, .int q3.2), (0, .ref (ad 30 0)), (1, .int a1)]) C rfl (by decide) rfl dX11_isNeeded_21 ?_
    refine j_iconst (v := 0) C (by decide) dX11_isNeeded_22 ?_
    refine j_istore (L' := [(4, .int (0 : Int32)), (3, .int q4), (2, .int q3.2), (0, .ref (ad 30 0)), (1, .int a1)]) C (by decide) rfl dX11_isNeeded_23 ?_
    exact j_sub [3, 2, 1, 0] rfl (t_X11_isNeeded_25 C FU q3.1 q3.2 q4 (0 : Int32) h)
  · replace h := (if_pos hc2).symm.trans h
    refine j_iconst (v := 0) C (by decide) dX11_isNeeded_9 ?_
    obtain rfl := Option.some.inj h
    exact j_iret C rfl (bo_nar (Or.inl rfl)) (Nat.le_refl _) (Nat.le_refl _) dX11_isNeeded_10
set_option maxRecDepth 100000 in
set_option maxHeartbeats 4000000 in
theorem c_X11_isNeeded {l : Launch} {g : Gc} {ad : Nat → Nat → Nat} {χ : Mem} {T : Nat → Mem} {σ : Mem} {a1 : Int32} {rr : Mem × Int32} (h : f_X11_isNeeded σ a1 = some rr) : Met l yX11_isNeeded (WS yX11_isNeeded cX11_isNeeded 5 (some .boolean)) rm_X11_isNeeded (PreW g ad χ T σ [.ref (ad 30 0), .int a1]) (PoI g ad χ T (rr.1) rr.2) 0 0 (geB g) := by
  refine j_metW (by decide) (Nat.le_of_ble_eq_true rfl) fun p e s m below meth c C hname => ?_
  rw [f_X11_isNeeded] at h
  exact j_sub [0, 1] rfl (t_X11_isNeeded_0 C σ a1 h)
set_option maxRecDepth 100000 in
set_option maxHeartbeats 4000000 in
theorem t_X11_size_4 {χ : Mem} {T : Nat → Mem} {σ : Mem} (C : Cx p s m args meth c cX11_size 3 RX11 (some .int) COM g) {rr : Int32} : ∀ (n : Nat) (v1 : Int32) (v2 : Int32) (h : f_X11_size_4 n v1 v2 = some rr), JJ p l e rm_X11_size s m args below meth c 3 g ad (MQ below (PoI g ad χ T σ rr) args s 0 0 (geB g)) χ T σ 0 0 [(1, .int v1), (2, .int v2)] 4 [] := by
  intro n
  induction n with
  | zero => intro  v1 v2  h; cases h
  | succ n ih =>
  intro  v1 v2  h
  rw [f_X11_size_4] at h
  refine j_iload_n C 1 rfl rfl dX11_size_4 ?_
  refine j_if_eq (tgt := 20) C (by decide) dX11_size_5 (fun hc1 => ?_) (fun hc1 => ?_)
  · replace h := (if_pos hc1).symm.trans h
    refine j_iload_n C 0 rfl rfl dX11_size_20 ?_
    obtain rfl := Option.some.inj h
    exact j_iret C rfl rfl (Nat.le_refl _) (Nat.le_refl _) dX11_size_21
  · replace h := (if_neg hc1).symm.trans h
    refine j_iinc (v := v1 + (1 : Int32)) (L' := [(1, .int (v1 + (1 : Int32))), (2, .int v2)]) C 0 rfl rfl (by decide) rfl dX11_size_8 ?_
    refine j_iload_n C 1 rfl rfl dX11_size_11 ?_
    refine j_iload_n C 1 rfl rfl dX11_size_12 ?_
    refine j_iconst (v := 1) C (by decide) dX11_size_13 ?_
    refine j_isub C dX11_size_14 ?_
    refine j_iand C dX11_size_15 ?_
    refine j_istore_n (L' := [(2, .int (v2 &&& (v2 - (1 : Int32)))), (1, .int (v1 + (1 : Int32)))]) C rfl (by decide) rfl dX11_size_16 ?_
    refine j_goto (tgt := 4) C (by decide) dX11_size_17 ?_
    exact j_sub [1, 0] rfl (ih (v1 + (1 : Int32)) (v2 &&& (v2 - (1 : Int32))) h)
set_option maxRecDepth 100000 in
set_option maxHeartbeats 4000000 in
theorem t_X11_size_0 {χ : Mem} {T : Nat → Mem} {σ : Mem} (C : Cx p s m args meth c cX11_size 3 RX11 (some .int) COM g) {rr : Int32} (a1 : Int32) (h : f_X11_size_0 a1 = some rr) : JJ p l e rm_X11_size s m args below meth c 3 g ad (MQ below (PoI g ad χ T σ rr) args s 0 0 (geB g)) χ T σ 0 0 [(0, .int a1)] 0 [] := by
  rw [f_X11_size_0] at h
  refine j_iconst (v := 0) C (by decide) dX11_size_0 ?_
  refine j_istore_n (L' := [(1, .int (0 : Int32)), (0, .int a1)]) C rfl (by decide) rfl dX11_size_1 ?_
  refine j_iload_n C 1 rfl rfl dX11_size_2 ?_
  refine j_istore_n (L' := [(2, .int a1), (1, .int (0 : Int32)), (0, .int a1)]) C rfl (by decide) rfl dX11_size_3 ?_
  exact j_sub [1, 0] rfl (t_X11_size_4 C FU (0 : Int32) a1 h)
set_option maxRecDepth 100000 in
set_option maxHeartbeats 4000000 in
theorem c_X11_size {l : Launch} {g : Gc} {ad : Nat → Nat → Nat} {χ : Mem} {T : Nat → Mem} {σ : Mem} {a1 : Int32} {rr : Int32} (h : f_X11_size a1 = some rr) : Met l yX11_size (WS yX11_size cX11_size 3 (some .int)) rm_X11_size (PreW g ad χ T σ [.int a1]) (PoI g ad χ T σ rr) 0 0 (geB g) := by
  refine j_metW (by decide) (Nat.le_of_ble_eq_true rfl) fun p e s m below meth c C hname => ?_
  rw [f_X11_size] at h
  exact j_sub [0] rfl (t_X11_size_0 C a1 h)
set_option maxRecDepth 100000 in
set_option maxHeartbeats 4000000 in
theorem t_X11_isBetween_0 {χ : Mem} {T : Nat → Mem} {σ : Mem} (C : Cx p s m args meth c cX11_isBetween 3 RX11 (some .boolean) COM g) {rr : Int32} (a1 : Int32) (a2 : Int32) (h : f_X11_isBetween_0 σ a1 a2 = some rr) : JJ p l e rm_X11_isBetween s m args below meth c 3 g ad (MQ below (PoI g ad χ T σ rr) args s 0 0 (geB g)) χ T σ 0 0 [(0, .ref (ad 30 0)), (1, .int a1), (2, .int a2)] 0 [] := by
  rw [f_X11_isBetween_0] at h
  refine j_iload_n C 2 rfl rfl dX11_isBetween_0 ?_
  refine j_aload_n C 0 rfl rfl dX11_isBetween_1 ?_
  refine j_getG C in_X11 (by decide) cw_30 rfl 8 (by decide) mw_1013 (fun _ h => h) rfl dX11_isBetween_2 ?_
  refine j_iload_n C 1 rfl rfl dX11_isBetween_5 ?_
  obtain ⟨hg1, h⟩ := gd_some h
  refine j_iald C (by decide) cw_31_8 hg1 dX11_isBetween_6 ?_
  refine j_ishr C dX11_isBetween_7 ?_
  refine j_iconst (v := 1) C (by decide) dX11_isBetween_8 ?_
  refine j_iand C dX11_isBetween_9 ?_
  refine j_if_eq (tgt := 30) C (by decide) dX11_isBetween_10 (fun hc2 => ?_) (fun hc2 => ?_)
  · replace h := (if_pos hc2).symm.trans h
    refine j_iconst (v := 0) C (by decide) dX11_isBetween_30 ?_
    obtain rfl := Option.some.inj h
    exact j_iret C rfl (bo_nar (Or.inl rfl)) (Nat.le_refl _) (Nat.le_refl _) dX11_isBetween_31
  · replace h := (if_neg hc2).symm.trans h
    refine j_iload_n C 2 rfl rfl dX11_isBetween_13 ?_
    refine j_aload_n C 0 rfl rfl dX11_isBetween_14 ?_
    refine j_getG C in_X11 (by decide) cw_30 rfl 9 (by decide) mw_1014 (fun _ h => h) rfl dX11_isBetween_15 ?_
    refine j_iload_n C 1 rfl rfl dX11_isBetween_18 ?_
    refine j_iald C (by decide) cw_31_9 hg1 dX11_isBetween_19 ?_
    refine j_ishr C dX11_isBetween_20 ?_
    refine j_iconst (v := 1) C (by decide) dX11_isBetween_21 ?_
    refine j_iand C dX11_isBetween_22 ?_
    refine j_if_eq (tgt := 30) C (by decide) dX11_isBetween_23 (fun hc3 => ?_) (fun hc3 => ?_)
    · replace h := (if_pos hc3).symm.trans h
      refine j_iconst (v := 0) C (by decide) dX11_isBetween_30 ?_
      obtain rfl := Option.some.inj h
      exact j_iret C rfl (bo_nar (Or.inl rfl)) (Nat.le_refl _) (Nat.le_refl _) dX11_isBetween_31
    · replace h := (if_neg hc3).symm.trans h
      refine j_iconst (v := 1) C (by decide) dX11_isBetween_26 ?_
      refine j_goto (tgt := 31) C (by decide) dX11_isBetween_27 ?_
      obtain rfl := Option.some.inj h
      exact j_iret C rfl (bo_nar (Or.inr rfl)) (Nat.le_refl _) (Nat.le_refl _) dX11_isBetween_31
set_option maxRecDepth 100000 in
set_option maxHeartbeats 4000000 in
theorem c_X11_isBetween {l : Launch} {g : Gc} {ad : Nat → Nat → Nat} {χ : Mem} {T : Nat → Mem} {σ : Mem} {a1 : Int32} {a2 : Int32} {rr : Int32} (h : f_X11_isBetween σ a1 a2 = some rr) : Met l yX11_isBetween (WS yX11_isBetween cX11_isBetween 3 (some .boolean)) rm_X11_isBetween (PreW g ad χ T σ [.ref (ad 30 0), .int a1, .int a2]) (PoI g ad χ T σ rr) 0 0 (geB g) := by
  refine j_metW (by decide) (Nat.le_of_ble_eq_true rfl) fun p e s m below meth c C hname => ?_
  rw [f_X11_isBetween] at h
  exact j_sub [0, 1, 2] rfl (t_X11_isBetween_0 C a1 a2 h)
set_option maxRecDepth 100000 in
set_option maxHeartbeats 4000000 in
theorem t_X11_isEven_31 {χ : Mem} {T : Nat → Mem} {σ : Mem} (C : Cx p s m args meth c cX11_isEven 6 RX11 (some .boolean) COM g) {rr : Int32} {k2 : Int32 → Int32 → Option (Int32)} (hk2 : ∀ (v1 : Int32) (v2 : Int32) , k2 v1 v2 = some rr → JJ p l e rm_X11_isEven s m args below meth c 6 g ad (MQ below (PoI g ad χ T σ rr) args s 0 0 (geB g)) χ T σ 0 0 [(0, .ref (ad 30 0)), (1, .int v1), (2, .int v2)] 2 []) : ∀ (n : Nat) (v1 : Int32) (v2 : Int32) (v3 : Int32) (v4 : Int32) (v5 : Int32) (h : f_X11_isEven_31 σ k2 n v1 v2 v3 v4 v5 = some rr), JJ p l e rm_X11_isEven s m args below meth c 6 g ad (MQ below (PoI g ad χ T σ rr) args s 0 0 (geB g)) χ T σ 0 0 [(0, .ref (ad 30 0)), (1, .int v1), (2, .int v2), (3, .int v3), (4, .int v4), (5, .int v5)] 31 [] := by
  intro n
  induction n with
  | zero => intro  v1 v2 v3 v4 v5  h; cases h
  | succ n ih =>
  intro  v1 v2 v3 v4 v5  h
  rw [f_X11_isEven_31] at h
  refine j_iload C 5 rfl dX11_isEven_31 ?_
  refine j_iload_n C 1 rfl rfl dX11_isEven_33 ?_
  refine j_icmp_gt (tgt := 66) C (by decide) dX11_isEven_34 (fun hc1 => ?_) (fun hc1 => ?_)
  · replace h := (if_pos hc1).symm.trans h
    refine j_iload C 4 rfl dX11_isEven_66 ?_
    refine j_iconst (v := 2) C (by decide) dX11_isEven_68 ?_
    refine j_iload_n C 3 rfl rfl dX11_isEven_69 ?_
    refine j_imul C dX11_isEven_70 ?_
    refine j_iconst (v := 3) C (by decide) dX11_isEven_71 ?_
    refine j_isub C dX11_isEven_72 ?_
    refine j_icmp_le (tgt := 78) C (by decide) dX11_isEven_73 (fun hc2 => ?_) (fun hc2 => ?_)
    · replace h := (if_pos hc2).symm.trans h
      refine j_iinc (v := v2 + (1 : Int32)) (L' := [(2, .int (v2 + (1 : Int32))), (0, .ref (ad 30 0)), (1, .int v1), (3, .int v3), (4, .int v4), (5, .int v5)]) C 2 rfl rfl (by decide) rfl dX11_isEven_78 ?_
      refine j_goto (tgt := 2) C (by decide) dX11_isEven_81 ?_
      exact j_sub [1, 2, 0] rfl (hk2 v1 (v2 + (1 : Int32)) h)
    · replace h := (if_neg hc2).symm.trans h
      refine j_iconst (v := 0) C (by decide) dX11_isEven_76 ?_
      obtain rfl := Option.some.inj h
      exact j_iret C rfl (bo_nar (Or.inl rfl)) (Nat.le_refl _) (Nat.le_refl _) dX11_isEven_77
  · replace h := (if_neg hc1).symm.trans h
    refine j_aload_n C 0 rfl rfl dX11_isEven_37 ?_
    refine j_getG C in_X11 (by decide) cw_30 rfl 21 (by decide) mw_1026 (fun _ h => h) rfl dX11_isEven_38 ?_
    refine j_iload C 5 rfl dX11_isEven_41 ?_
    obtain ⟨hg3, h⟩ := gd_some h
    refine j_zald C (by decide) cw_31_21 hg3 dX11_isEven_43 ?_
    refine j_if_eq (tgt := 60) C (by decide) dX11_isEven_44 (fun hc4 => ?_) (fun hc4 => ?_)
    · replace h := (if_pos hc4).symm.trans h
      refine j_iinc (v := v5 + (1 : Int32)) (L' := [(5, .int (v5 + (1 : Int32))), (0, .ref (ad 30 0)), (1, .int v1), (2, .int v2), (3, .int v3), (4, .int v4)]) C 5 rfl rfl (by decide) rfl dX11_isEven_60 ?_
      refine j_goto (tgt := 31) C (by decide) dX11_isEven_63 ?_
      exact j_sub [1, 2, 3, 4, 5, 0] rfl (ih v1 v2 v3 v4 (v5 + (1 : Int32)) h)
    · replace h := (if_neg hc4).symm.trans h
      refine j_aload_n C 0 rfl rfl dX11_isEven_47 ?_
      refine j_iload C 5 rfl dX11_isEven_48 ?_
      refine j_iload_n C 2 rfl rfl dX11_isEven_50 ?_
      obtain ⟨q5, hq5, h⟩ := bi_some h
      refine j_callVi (As := [.int v5, .int v2]) (rest := []) C (c_X11_isBetween hq5) (cwV 2 C.ts (good_V mw_1191 mw_1193 mw_48 mw_73 mw_1194) rfl rfl rfl (by decide +kernel) ⟨Nat.le_of_ble_eq_true rfl, Nat.le_of_ble_eq_true rfl⟩) (fun H hW => CW.rv C.k hW (by decide) cw_30 rfl) rfl rfl (Nat.le_of_ble_eq_true rfl) dX11_isEven_51 ⟨Nat.zero_le _, Nat.zero_le _⟩ ?_
      refine j_if_eq (tgt := 60) C (by decide) dX11_isEven_54 (fun hc6 => ?_) (fun hc6 => ?_)
      · replace h := (if_pos hc6).symm.trans h
        refine j_iinc (v := v5 + (1 : Int32)) (L' := [(5, .int (v5 + (1 : Int32))), (0, .ref (ad 30 0)), (1, .int v1), (2, .int v2), (3, .int v3), (4, .int v4)]) C 5 rfl rfl (by decide) rfl dX11_isEven_60 ?_
        refine j_goto (tgt := 31) C (by decide) dX11_isEven_63 ?_
        exact j_sub [1, 2, 3, 4, 5, 0] rfl (ih v1 v2 v3 v4 (v5 + (1 : Int32)) h)
      · replace h := (if_neg hc6).symm.trans h
        refine j_iinc (v := v4 + (1 : Int32)) (L' := [(4, .int (v4 + (1 : Int32))), (0, .ref (ad 30 0)), (1, .int v1), (2, .int v2), (3, .int v3), (5, .int v5)]) C 4 rfl rfl (by decide) rfl dX11_isEven_57 ?_
        refine j_iinc (v := v5 + (1 : Int32)) (L' := [(5, .int (v5 + (1 : Int32))), (4, .int (v4 + (1 : Int32))), (0, .ref (ad 30 0)), (1, .int v1), (2, .int v2), (3, .int v3)]) C 5 rfl rfl (by decide) rfl dX11_isEven_60 ?_
        refine j_goto (tgt := 31) C (by decide) dX11_isEven_63 ?_
        exact j_sub [2, 3, 4, 5, 1, 0] rfl (ih v1 v2 v3 (v4 + (1 : Int32)) (v5 + (1 : Int32)) h)
set_option maxRecDepth 100000 in
set_option maxHeartbeats 4000000 in
theorem t_X11_isEven_2 {χ : Mem} {T : Nat → Mem} {σ : Mem} (C : Cx p s m args meth c cX11_isEven 6 RX11 (some .boolean) COM g) {rr : Int32} : ∀ (n : Nat) (v1 : Int32) (v2 : Int32) (h : f_X11_isEven_2 σ n v1 v2 = some rr), JJ p l e rm_X11_isEven s m args below meth c 6 g ad (MQ below (PoI g ad χ T σ rr) args s 0 0 (geB g)) χ T σ 0 0 [(0, .ref (ad 30 0)), (1, .int v1), (2, .int v2)] 2 [] := by
  intro n
  induction n with
  | zero => intro  v1 v2  h; cases h
  | succ n ih =>
  intro  v1 v2  h
  rw [f_X11_isEven_2] at h
  refine j_iload_n C 2 rfl rfl dX11_isEven_2 ?_
  refine j_iconst (v := 1) C (by decide) dX11_isEven_3 ?_
  refine j_aload_n C 0 rfl rfl dX11_isEven_4 ?_
  refine j_getG C in_X11 (by decide) cw_30 rfl 0 (by decide) mw_1005 (fun _ h => h) rfl dX11_isEven_5 ?_
  refine j_ishl C dX11_isEven_8 ?_
  refine j_icmp_ge (tgt := 84) C (by decide) dX11_isEven_9 (fun hc1 => ?_) (fun hc1 => ?_)
  · replace h := (if_pos hc1).symm.trans h
    refine j_iconst (v := 1) C (by decide) dX11_isEven_84 ?_
    obtain rfl := Option.some.inj h
    exact j_iret C rfl (bo_nar (Or.inr rfl)) (Nat.le_refl _) (Nat.le_refl _) dX11_isEven_85
  · replace h := (if_neg hc1).symm.trans h
    refine j_iload_n C 2 rfl rfl dX11_isEven_12 ?_
    obtain ⟨q2, hq2, h⟩ := bi_some h
    refine j_callSi (As := [.int v2]) (rest := []) C (c_X11_size hq2) (va_cwS 1 C.ts (good_S mw_1184 mw_1185 mw_73 mw_1186) rfl rfl rfl (by decide +kernel) ⟨Nat.le_of_ble_eq_true rfl, Nat.le_of_ble_eq_true rfl⟩) rfl rfl (Nat.le_of_ble_eq_true rfl) dX11_isEven_13 ⟨Nat.zero_le _, Nat.zero_le _⟩ ?_
    refine j_istore_n (L' := [(3, .int q2), (0, .ref (ad 30 0)), (1, .int v1), (2, .int v2)]) C rfl (by decide) rfl dX11_isEven_16 ?_
    refine j_iload_n C 0 rfl rfl dX11_isEven_17 ?_
    refine j_iconst (v := 2) C (by decide) dX11_isEven_18 ?_
    refine j_icmp_ge (tgt := 25) C (by decide) dX11_isEven_19 (fun hc3 => ?_) (fun hc3 => ?_)
    · replace h := (if_pos hc3).symm.trans h
      refine j_iconst (v := 0) C (by decide) dX11_isEven_25 ?_
      refine j_istore (L' := [(4, .int (0 : Int32)), (3, .int q2), (0, .ref (ad 30 0)), (1, .int v1), (2, .int v2)]) C (by decide) rfl dX11_isEven_26 ?_
      refine j_iconst (v := 0) C (by decide) dX11_isEven_28 ?_
      refine j_istore (L' := [(5, .int (0 : Int32)), (4, .int (0 : Int32)), (3, .int q2), (0, .ref (ad 30 0)), (1, .int v1), (2, .int v2)]) C (by decide) rfl dX11_isEven_29 ?_
      exact j_sub [3, 4, 5, 2, 1, 0] rfl (t_X11_isEven_31 C ih FU v1 v2 q2 (0 : Int32) (0 : Int32) h)
    · replace h := (if_neg hc3).symm.trans h
      refine j_goto (tgt := 78) C (by decide) dX11_isEven_22 ?_
      refine j_iinc (v := v2 + (1 : Int32)) (L' := [(2, .int (v2 + (1 : Int32))), (3, .int q2), (0, .ref (ad 30 0)), (1, .int v1)]) C 3 rfl rfl (by decide) rfl dX11_isEven_78 ?_
      refine j_goto (tgt := 2) C (by decide) dX11_isEven_81 ?_
      exact j_sub [2, 3, 0] rfl (ih v1 (v2 + (1 : Int32)) h)
set_option maxRecDepth 100000 in
set_option maxHeartbeats 4000000 in
theorem t_X11_isEven_0 {χ : Mem} {T : Nat → Mem} {σ : Mem} (C : Cx p s m args meth c cX11_isEven 6 RX11 (some .boolean) COM g) {rr : Int32} (a1 : Int32) (h : f_X11_isEven_0 σ a1 = some rr) : JJ p l e rm_X11_isEven s m args below meth c 6 g ad (MQ below (PoI g ad χ T σ rr) args s 0 0 (geB g)) χ T σ 0 0 [(0, .ref (ad 30 0)), (1, .int a1)] 0 [] := by
  rw [f_X11_isEven_0] at h
  refine j_iconst (v := 0) C (by decide) dX11_isEven_0 ?_
  refine j_istore_n (L' := [(2, .int (0 : Int32)), (0, .ref (ad 30 0)), (1, .int a1)]) C rfl (by decide) rfl dX11_isEven_1 ?_
  exact j_sub [1, 2, 0] rfl (t_X11_isEven_2 C FU a1 (0 : Int32) h)
set_option maxRecDepth 100000 in
set_option maxHeartbeats 4000000 in
theorem c_X11_isEven {l : Launch} {g : Gc} {ad : Nat → Nat → Nat} {χ : Mem} {T : Nat → Mem} {σ : Mem} {a1 : Int32} {rr : Int32} (h : f_X11_isEven σ a1 = some rr) : Met l yX11_isEven (WS yX11_isEven cX11_isEven 6 (some .boolean)) rm_X11_isEven (PreW g ad χ T σ [.ref (ad 30 0), .int a1]) (PoI g ad χ T σ rr) 0 0 (geB g) := by
  refine j_metW (by decide) (Nat.le_of_ble_eq_true rfl) fun p e s m below meth c C hname => ?_
  rw [f_X11_isEven] at h
  exact j_sub [0, 1] rfl (t_X11_isEven_0 C a1 h)
set_option maxRecDepth 100000 in
set_option maxHeartbeats 4000000 in
theorem t_X11_even_4 {χ : Mem} {T : Nat → Mem} (C : Cx p s m args meth c cX11_even 4 RX11 (some .int) COM g) {rr : Mem × Int32} : ∀ (n : Nat) (σ : Mem) (v1 : Int32) (v2 : Int32) (v3 : Int32) (h : f_X11_even_4 n σ v1 v2 v3 = some rr), JJ p l e rm_X11_even s m args below meth c 4 g ad (MQ below (PoI g ad χ T (rr.1) rr.2) args s 0 0 (geB g)) χ T σ 0 0 [(0, .ref (ad 30 0)), (1, .int v1), (2, .int v2), (3, .int v3)] 4 [] := by
  intro n
  induction n with
  | zero => intro  σ v1 v2 v3  h; cases h
  | succ n ih =>
  intro  σ v1 v2 v3  h
  rw [f_X11_even_4] at h
  refine j_iload_n C 3 rfl rfl dX11_even_4 ?_
  refine j_aload_n C 0 rfl rfl dX11_even_5 ?_
  refine j_getG C in_X11 (by decide) cw_30 rfl 1 (by decide) mw_1006 (fun _ h => h) rfl dX11_even_6 ?_
  refine j_icmp_ge (tgt := 74) C (by decide) dX11_even_9 (fun hc1 => ?_) (fun hc1 => ?_)
  · replace h := (if_pos hc1).symm.trans h
    refine j_iload_n C 2 rfl rfl dX11_even_74 ?_
    obtain rfl := Option.some.inj h
    exact j_iret C rfl rfl (Nat.le_refl _) (Nat.le_refl _) dX11_even_75
  · replace h := (if_neg hc1).symm.trans h
    refine j_aload_n C 0 rfl rfl dX11_even_12 ?_
    refine j_getG C in_X11 (by decide) cw_30 rfl 21 (by decide) mw_1026 (fun _ h => h) rfl dX11_even_13 ?_
    refine j_iload_n C 3 rfl rfl dX11_even_16 ?_
    refine j_iconst (v := 0) C (by decide) dX11_even_17 ?_
    obtain ⟨hg2, h⟩ := gd_some h
    refine j_zastP C (Or.inl rfl) (by decide) (po_M_tried v3.toNatClampNeg (0 : Int32)) hg2 dX11_even_18 ?_
    refine j_aload_n C 0 rfl rfl dX11_even_19 ?_
    refine j_getG C in_X11 (by decide) cw_30 rfl 11 (by decide) mw_1016 (fun _ h => h) rfl dX11_even_20 ?_
    refine j_iload_n C 3 rfl rfl dX11_even_23 ?_
    refine j_zald C (by decide) cw_31_11 hg2 dX11_even_24 ?_
    refine j_if_eq (tgt := 68) C (by decide) dX11_even_25 (fun hc3 => ?_) (fun hc3 => ?_)
    · replace h := (if_pos hc3).symm.trans h
      refine j_iinc (v := v3 + (1 : Int32)) (L' := [(3, .int (v3 + (1 : Int32))), (0, .ref (ad 30 0)), (1, .int v1), (2, .int v2)]) C 3 rfl rfl (by decide) rfl dX11_even_68 ?_
      refine j_goto (tgt := 4) C (by decide) dX11_even_71 ?_
      exact j_sub [1, 2, 3, 0] rfl (ih (wI σ 21 v3.toNatClampNeg (0 : Int32)) v1 v2 (v3 + (1 : Int32)) h)
    · replace h := (if_neg hc3).symm.trans h
      refine j_aload_n C 0 rfl rfl dX11_even_28 ?_
      refine j_iload_n C 3 rfl rfl dX11_even_29 ?_
      refine j_iload_n C 1 rfl rfl dX11_even_30 ?_
      obtain ⟨q4, hq4, h⟩ := bi_some h
      refine j_callVi (As := [.int v3, .int v1]) (rest := []) C (c_X11_isBetween hq4) (cwV 2 C.ts (good_V mw_1191 mw_1193 mw_48 mw_73 mw_1194) rfl rfl rfl (by decide +kernel) ⟨Nat.le_of_ble_eq_true rfl, Nat.le_of_ble_eq_true rfl⟩) (fun H hW => CW.rv C.k hW (by decide) cw_30 rfl) rfl rfl (Nat.le_of_ble_eq_true rfl) dX11_even_31 ⟨Nat.zero_le _, Nat.zero_le _⟩ ?_
      refine j_if_ne (tgt := 40) C (by decide) dX11_even_34 (fun hc5 => ?_) (fun hc5 => ?_)
      · replace h := (if_neg hc5).symm.trans h
        refine j_aload_n C 0 rfl rfl dX11_even_40 ?_
        refine j_getG C in_X11 (by decide) cw_30 rfl 21 (by decide) mw_1026 (fun _ h => h) rfl dX11_even_41 ?_
        refine j_iload_n C 3 rfl rfl dX11_even_44 ?_
        refine j_iconst (v := 1) C (by decide) dX11_even_45 ?_
        refine j_zastP C (Or.inr rfl) (by decide) (po_M_tried v3.toNatClampNeg (1 : Int32)) hg2 dX11_even_46 ?_
        refine j_aload_n C 0 rfl rfl dX11_even_47 ?_
        refine j_iload_n C 3 rfl rfl dX11_even_48 ?_
        obtain ⟨q6, hq6, h⟩ := bi_some h
        refine j_callVi (As := [.int v3]) (rest := []) C (c_X11_isEven hq6) (cwV 1 C.ts (good_V mw_1195 mw_1197 mw_49 mw_73 mw_1198) rfl rfl rfl (by decide +kernel) ⟨Nat.le_of_ble_eq_true rfl, Nat.le_of_ble_eq_true rfl⟩) (fun H hW => CW.rv C.k hW (by decide) cw_30 rfl) rfl rfl (Nat.le_of_ble_eq_true rfl) dX11_even_49 ⟨Nat.zero_le _, Nat.zero_le _⟩ ?_
        refine j_if_eq (tgt := 61) C (by decide) dX11_even_52 (fun hc7 => ?_) (fun hc7 => ?_)
        · replace h := (if_pos hc7).symm.trans h
          refine j_aload_n C 0 rfl rfl dX11_even_61 ?_
          refine j_getG C in_X11 (by decide) cw_30 rfl 21 (by decide) mw_1026 (fun _ h => h) rfl dX11_even_62 ?_
          refine j_iload_n C 3 rfl rfl dX11_even_65 ?_
          refine j_iconst (v := 0) C (by decide) dX11_even_66 ?_
          refine j_zastP C (Or.inl rfl) (by decide) (po_M_tried v3.toNatClampNeg (0 : Int32)) hg2 dX11_even_67 ?_
          refine j_iinc (v := v3 + (1 : Int32)) (L' := [(3, .int (v3 + (1 : Int32))), (0, .ref (ad 30 0)), (1, .int v1), (2, .int v2)]) C 3 rfl rfl (by decide) rfl dX11_even_68 ?_
          refine j_goto (tgt := 4) C (by decide) dX11_even_71 ?_
          exact j_sub [1, 2, 3, 0] rfl (ih (wI (wI (wI σ 21 v3.toNatClampNeg (0 : Int32)) 21 v3.toNatClampNeg (1 : Int32)) 21 v3.toNatClampNeg (0 : Int32)) v1 v2 (v3 + (1 : Int32)) h)
        · replace h := (if_neg hc7).symm.trans h
          refine j_iinc (v := v2 + (1 : Int32)) (L' := [(2, .int (v2 + (1 : Int32))), (0, .ref (ad 30 0)), (1, .int v1), (3, .int v3)]) C 2 rfl rfl (by decide) rfl dX11_even_55 ?_
          refine j_goto (tgt := 68) C (by decide) dX11_even_58 ?_
          refine j_iinc (v := v3 + (1 : Int32)) (L' := [(3, .int (v3 + (1 : Int32))), (2, .int (v2 + (1 : Int32))), (0, .ref (ad 30 0)), (1, .int v1)]) C 3 rfl rfl (by decide) rfl dX11_even_68 ?_
          refine j_goto (tgt := 4) C (by decide) dX11_even_71 ?_
          exact j_sub [2, 3, 1, 0] rfl (ih (wI (wI σ 21 v3.toNatClampNeg (0 : Int32)) 21 v3.toNatClampNeg (1 : Int32)) v1 (v2 + (1 : Int32)) (v3 + (1 : Int32)) h)
      · replace h := (if_pos hc5).symm.trans h
        refine j_goto (tgt := 68) C (by decide) dX11_even_37 ?_
        refine j_iinc (v := v3 + (1 : Int32)) (L' := [(3, .int (v3 + (1 : Int32))), (0, .ref (ad 30 0)), (1, .int v1), (2, .int v2)]) C 3 rfl rfl (by decide) rfl dX11_even_68 ?_
        refine j_goto (tgt := 4) C (by decide) dX11_even_71 ?_
        exact j_sub [1, 2, 3, 0] rfl (ih (wI σ 21 v3.toNatClampNeg (0 : Int32)) v1 v2 (v3 + (1 : Int32)) h)
set_option maxRecDepth 100000 in
set_option maxHeartbeats 4000000 in
theorem t_X11_even_0 {χ : Mem} {T : Nat → Mem} (C : Cx p s m args meth c cX11_even 4 RX11 (some .int) COM g) {rr : Mem × Int32} (σ : Mem) (a1 : Int32) (h : f_X11_even_0 σ a1 = some rr) : JJ p l e rm_X11_even s m args below meth c 4 g ad (MQ below (PoI g ad χ T (rr.1) rr.2) args s 0 0 (geB g)) χ T σ 0 0 [(0, .ref (ad 30 0)), (1, .int a1)] 0 [] := by
  rw [f_X11_even_0] at h
  refine j_iconst (v := 0) C (by decide) dX11_even_0 ?_
  refine j_istore_n (L' := [(2, .int (0 : Int32)), (0, .ref (ad 30 0)), (1, .int a1)]) C rfl (by decide) rfl dX11_even_1 ?_
  refine j_iconst (v := 0) C (by decide) dX11_even_2 ?_
  refine j_istore_n (L' := [(3, .int (0 : Int32)), (2, .int (0 : Int32)), (0, .ref (ad 30 0)), (1, .int a1)]) C rfl (by decide) rfl dX11_even_3 ?_
  exact j_sub [2, 3, 1, 0] rfl (t_X11_even_4 C FU σ a1 (0 : Int32) (0 : Int32) h)
set_option maxRecDepth 100000 in
set_option maxHeartbeats 4000000 in
theorem c_X11_even {l : Launch} {g : Gc} {ad : Nat → Nat → Nat} {χ : Mem} {T : Nat → Mem} {σ : Mem} {a1 : Int32} {rr : Mem × Int32} (h : f_X11_even σ a1 = some rr) : Met l yX11_even (WS yX11_even cX11_even 4 (some .int)) rm_X11_even (PreW g ad χ T σ [.ref (ad 30 0), .int a1]) (PoI g ad χ T (rr.1) rr.2) 0 0 (geB g) := by
  refine j_metW (by decide) (Nat.le_of_ble_eq_true rfl) fun p e s m below meth c C hname => ?_
  rw [f_X11_even] at h
  exact j_sub [0, 1] rfl (t_X11_even_0 C σ a1 h)
set_option maxRecDepth 100000 in
set_option maxHeartbeats 4000000 in
theorem t_X11_isAhead_66 {χ : Mem} {T : Nat → Mem} {σ : Mem} (C : Cx p s m args meth c cX11_isAhead 7 RX11 (some .boolean) COM g) {rr : Int32} (v3 : Int32) (v4 : Int32) (h : f_X11_isAhead_66 v3 v4 = some rr) : JJ p l e rm_X11_isAhead s m args below meth c 7 g ad (MQ below (PoI g ad χ T σ rr) args s 0 0 (geB g)) χ T σ 0 0 [(3, .int v3), (4, .int v4)] 66 [] := by
  rw [f_X11_isAhead_66] at h
  refine j_iload_n C 0 rfl rfl dX11_isAhead_66 ?_
  refine j_if_ne (tgt := 79) C (by decide) dX11_isAhead_67 (fun hc1 => ?_) (fun hc1 => ?_)
  · replace h := (if_neg hc1).symm.trans h
    refine j_iconst (v := 0) C (by decide) dX11_isAhead_79 ?_
    obtain rfl := Option.some.inj h
    exact j_iret C rfl (bo_nar (Or.inl rfl)) (Nat.le_refl _) (Nat.le_refl _) dX11_isAhead_80
  · replace h := (if_pos hc1).symm.trans h
    refine j_iload C 1 rfl dX11_isAhead_70 ?_
    refine j_if_eq (tgt := 79) C (by decide) dX11_isAhead_72 (fun hc2 => ?_) (fun hc2 => ?_)
    · replace h := (if_pos hc2).symm.trans h
      refine j_iconst (v := 0) C (by decide) dX11_isAhead_79 ?_
      obtain rfl := Option.some.inj h
      exact j_iret C rfl (bo_nar (Or.inl rfl)) (Nat.le_refl _) (Nat.le_refl _) dX11_isAhead_80
    · replace h := (if_neg hc2).symm.trans h
      refine j_iconst (v := 1) C (by decide) dX11_isAhead_75 ?_
      refine j_goto (tgt := 80) C (by decide) dX11_isAhead_76 ?_
      obtain rfl := Option.some.inj h
      exact j_iret C rfl (bo_nar (Or.inr rfl)) (Nat.le_refl _) (Nat.le_refl _) dX11_isAhead_80
set_option maxRecDepth 100000 in
set_option maxHeartbeats 4000000 in
theorem t_X11_isAhead_5 {χ : Mem} {T : Nat → Mem} {σ : Mem} (C : Cx p s m args meth c cX11_isAhead 7 RX11 (some .boolean) COM g) {rr : Int32} : ∀ (n : Nat) (v3 : Int32) (v4 : Int32) (h : f_X11_isAhead_5 n v3 v4 = some rr), JJ p l e rm_X11_isAhead s m args below meth c 7 g ad (MQ below (PoI g ad χ T σ rr) args s 0 0 (geB g)) χ T σ 0 0 [(3, .int v3), (4, .int v4)] 5 [] := by
  intro n
  induction n with
  | zero => intro  v3 v4  h; cases h
  | succ n ih =>
  intro  v3 v4  h
  rw [f_X11_isAhead_5] at h
  refine j_iload_n C 0 rfl rfl dX11_isAhead_5 ?_
  refine j_if_eq (tgt := 66) C (by decide) dX11_isAhead_6 (fun hc1 => ?_) (fun hc1 => ?_)
  · replace h := (if_pos hc1).symm.trans h
    exact j_sub [0, 1] rfl (t_X11_isAhead_66 C v3 v4 h)
  · replace h := (if_neg hc1).symm.trans h
    refine j_iload C 1 rfl dX11_isAhead_9 ?_
    refine j_if_eq (tgt := 66) C (by decide) dX11_isAhead_11 (fun hc2 => ?_) (fun hc2 => ?_)
    · replace h := (if_pos hc2).symm.trans h
      exact j_sub [0, 1] rfl (t_X11_isAhead_66 C v3 v4 h)
    · replace h := (if_neg hc2).symm.trans h
      refine j_iload_n C 0 rfl rfl dX11_isAhead_14 ?_
      refine j_iload_n C 0 rfl rfl dX11_isAhead_15 ?_
      refine j_ineg C dX11_isAhead_16 ?_
      refine j_iand C dX11_isAhead_17 ?_
      refine j_istore (L' := [(5, .int (v3 &&& (-v3))), (3, .int v3), (4, .int v4)]) C (by decide) rfl dX11_isAhead_18 ?_
      refine j_iload C 2 rfl dX11_isAhead_20 ?_
      refine j_iload C 2 rfl dX11_isAhead_22 ?_
      refine j_ineg C dX11_isAhead_24 ?_
      refine j_iand C dX11_isAhead_25 ?_
      refine j_istore (L' := [(6, .int (v4 &&& (-v4))), (5, .int (v3 &&& (-v3))), (3, .int v3), (4, .int v4)]) C (by decide) rfl dX11_isAhead_26 ?_
      refine j_iload C 1 rfl dX11_isAhead_28 ?_
      refine j_iload C 0 rfl dX11_isAhead_30 ?_
      refine j_icmp_eq (tgt := 48) C (by decide) dX11_isAhead_32 (fun hc3 => ?_) (fun hc3 => ?_)
      · replace h := (if_pos hc3).symm.trans h
        refine j_iload_n C 2 rfl rfl dX11_isAhead_48 ?_
        refine j_iload_n C 2 rfl rfl dX11_isAhead_49 ?_
        refine j_iconst (v := 1) C (by decide) dX11_isAhead_50 ?_
        refine j_isub C dX11_isAhead_51 ?_
        refine j_iand C dX11_isAhead_52 ?_
        refine j_istore_n (L' := [(3, .int (v3 &&& (v3 - (1 : Int32)))), (6, .int (v4 &&& (-v4))), (5, .int (v3 &&& (-v3))), (4, .int v4)]) C rfl (by decide) rfl dX11_isAhead_53 ?_
        refine j_iload C 3 rfl dX11_isAhead_54 ?_
        refine j_iload C 3 rfl dX11_isAhead_56 ?_
        refine j_iconst (v := 1) C (by decide) dX11_isAhead_58 ?_
        refine j_isub C dX11_isAhead_59 ?_
        refine j_iand C dX11_isAhead_60 ?_
        refine j_istore (L' := [(4, .int (v4 &&& (v4 - (1 : Int32)))), (3, .int (v3 &&& (v3 - (1 : Int32)))), (6, .int (v4 &&& (-v4))), (5, .int (v3 &&& (-v3)))]) C (by decide) rfl dX11_isAhead_61 ?_
        refine j_goto (tgt := 5) C (by decide) dX11_isAhead_63 ?_
        exact j_sub [1, 0] rfl (ih (v3 &&& (v3 - (1 : Int32))) (v4 &&& (v4 - (1 : Int32))) h)
      · replace h := (if_neg hc3).symm.trans h
        refine j_iload C 1 rfl dX11_isAhead_35 ?_
        refine j_iload C 0 rfl dX11_isAhead_37 ?_
        refine j_icmp_ge (tgt := 46) C (by decide) dX11_isAhead_39 (fun hc4 => ?_) (fun hc4 => ?_)
        · replace h := (if_pos hc4).symm.trans h
          refine j_iconst (v := 0) C (by decide) dX11_isAhead_46 ?_
          obtain rfl := Option.some.inj h
          exact j_iret C rfl (bo_nar (Or.inl rfl)) (Nat.le_refl _) (Nat.le_refl _) dX11_isAhead_47
        · replace h := (if_neg hc4).symm.trans h
          refine j_iconst (v := 1) C (by decide) dX11_isAhead_42 ?_
          refine j_goto (tgt := 47) C (by decide) dX11_isAhead_43 ?_
          obtain rfl := Option.some.inj h
          exact j_iret C rfl (bo_nar (Or.inr rfl)) (Nat.le_refl _) (Nat.le_refl _) dX11_isAhead_47
set_option maxRecDepth 100000 in
set_option maxHeartbeats 4000000 in
theorem t_X11_isAhead_0 {χ : Mem} {T : Nat → Mem} {σ : Mem} (C : Cx p s m args meth c cX11_isAhead 7 RX11 (some .boolean) COM g) {rr : Int32} (a1 : Int32) (a2 : Int32) (h : f_X11_isAhead_0 a1 a2 = some rr) : JJ p l e rm_X11_isAhead s m args below meth c 7 g ad (MQ below (PoI g ad χ T σ rr) args s 0 0 (geB g)) χ T σ 0 0 [(0, .ref (ad 30 0)), (1, .int a1), (2, .int a2)] 0 [] := by
  rw [f_X11_isAhead_0] at h
  refine j_iload_n C 1 rfl rfl dX11_isAhead_0 ?_
  refine j_istore_n (L' := [(3, .int a1), (0, .ref (ad 30 0)), (1, .int a1), (2, .int a2)]) C rfl (by decide) rfl dX11_isAhead_1 ?_
  refine j_iload_n C 3 rfl rfl dX11_isAhead_2 ?_
  refine j_istore (L' := [(4, .int a2), (3, .int a1), (0, .ref (ad 30 0)), (1, .int a1), (2, .int a2)]) C (by decide) rfl dX11_isAhead_3 ?_
  exact j_sub [1, 0] rfl (t_X11_isAhead_5 C FU a1 a2 h)
set_option maxRecDepth 100000 in
set_option maxHeartbeats 4000000 in
theorem c_X11_isAhead {l : Launch} {g : Gc} {ad : Nat → Nat → Nat} {χ : Mem} {T : Nat → Mem} {σ : Mem} {a1 : Int32} {a2 : Int32} {rr : Int32} (h : f_X11_isAhead a1 a2 = some rr) : Met l yX11_isAhead (WS yX11_isAhead cX11_isAhead 7 (some .boolean)) rm_X11_isAhead (PreW g ad χ T σ [.ref (ad 30 0), .int a1, .int a2]) (PoI g ad χ T σ rr) 0 0 (geB g) := by
  refine j_metW (by decide) (Nat.le_of_ble_eq_true rfl) fun p e s m below meth c C hname => ?_
  rw [f_X11_isAhead] at h
  exact j_sub [0, 1, 2] rfl (t_X11_isAhead_0 C a1 a2 h)
set_option maxRecDepth 100000 in
set_option maxHeartbeats 4000000 in
theorem t_X11_findBodies_194 {χ : Mem} {T : Nat → Mem} (C : Cx p s m args meth c cX11_findBodies 5 RX11 none COM g) {rr : Mem} : ∀ (n : Nat) (σ : Mem) (v1 : Int32) (v2 : Int32) (h : f_X11_findBodies_194 n σ v1 v2 = some rr), JJ p l e rm_X11_findBodies s m args below meth c 5 g ad (MQ below (PoV g ad χ T (rr)) args s 0 0 (geB g)) χ T σ 0 0 [(0, .ref (ad 30 0)), (1, .int v1), (2, .int v2)] 194 [] := by
  intro n
  induction n with
  | zero => intro  σ v1 v2  h; cases h
  | succ n ih =>
  intro  σ v1 v2  h
  rw [f_X11_findBodies_194] at h
  refine j_iload_n C 2 rfl rfl dX11_findBodies_194 ?_
  refine j_iload_n C 1 rfl rfl dX11_findBodies_195 ?_
  refine j_icmp_ge (tgt := 217) C (by decide) dX11_findBodies_196 (fun hc1 => ?_) (fun hc1 => ?_)
  · replace h := (if_pos hc1).symm.trans h
    refine j_aload_n C 0 rfl rfl dX11_findBodies_217 ?_
    refine j_iload_n C 1 rfl rfl dX11_findBodies_218 ?_
    refine j_putI C in_X11 tyX11_ok nmX11 rfl 18 (by decide) (by decide) (po_M_bodies v1) mw_1023 (fun _ h => h) rfl (tyX11_ok 18 (by decide)) (Nat.le_of_ble_eq_true rfl) dX11_findBodies_219 ?_
    obtain rfl := Option.some.inj h
    exact j_vret C rfl (Nat.le_refl _) (Nat.le_refl _) dX11_findBodies_222
  · replace h := (if_neg hc1).symm.trans h
    refine j_aload_n C 0 rfl rfl dX11_findBodies_199 ?_
    refine j_getG C in_X11 (by decide) cw_30 rfl 19 (by decide) mw_1024 (fun _ h => h) rfl dX11_findBodies_200 ?_
    refine j_iload_n C 2 rfl rfl dX11_findBodies_203 ?_
    refine j_aload_n C 0 rfl rfl dX11_findBodies_204 ?_
    refine j_getG C in_X11 (by decide) cw_30 rfl 31 (by decide) mw_1036 (fun _ h => h) rfl dX11_findBodies_205 ?_
    refine j_iload_n C 2 rfl rfl dX11_findBodies_208 ?_
    obtain ⟨hg2, h⟩ := gd_some h
    refine j_iald C (by decide) cw_31_31 hg2 dX11_findBodies_209 ?_
    obtain ⟨hg3, h⟩ := gd_some h
    refine j_iastP C (by decide) (po_M_body v2.toNatClampNeg (gI σ 31 v2.toNatClampNeg)) hg3 dX11_findBodies_210 ?_
    refine j_iinc (v := v2 + (1 : Int32)) (L' := [(2, .int (v2 + (1 : Int32))), (0, .ref (ad 30 0)), (1, .int v1)]) C 2 rfl rfl (by decide) rfl dX11_findBodies_211 ?_
    refine j_goto (tgt := 194) C (by decide) dX11_findBodies_214 ?_
    exact j_sub [1, 2, 0] rfl (ih (wI σ 19 v2.toNatClampNeg (gI σ 31 v2.toNatClampNeg)) v1 (v2 + (1 : Int32)) h)
set_option maxRecDepth 100000 in
set_option maxHeartbeats 4000000 in
theorem t_X11_findBodies_125 {χ : Mem} {T : Nat → Mem} (C : Cx p s m args meth c cX11_findBodies 5 RX11 none COM g) {rr : Mem} {k112 : Mem → Int32 → Int32 → Option (Mem)} (hk112 : ∀ (σ : Mem) (v1 : Int32) (v2 : Int32) , k112 σ v1 v2 = some rr → JJ p l e rm_X11_findBodies s m args below meth c 5 g ad (MQ below (PoV g ad χ T (rr)) args s 0 0 (geB g)) χ T σ 0 0 [(0, .ref (ad 30 0)), (1, .int v1), (2, .int v2)] 112 []) : ∀ (n : Nat) (σ : Mem) (v1 : Int32) (v2 : Int32) (v3 : Int32) (v4 : Int32) (h : f_X11_findBodies_125 k112 n σ v1 v2 v3 v4 = some rr), JJ p l e rm_X11_findBodies s m args below meth c 5 g ad (MQ below (PoV g ad χ T (rr)) args s 0 0 (geB g)) χ T σ 0 0 [(0, .ref (ad 30 0)), (1, .int v1), (2, .int v2), (3, .int v3), (4, .int v4)] 125 [] := by
  intro n
  induction n with
  | zero => intro  σ v1 v2 v3 v4  h; cases h
  | succ n ih =>
  intro  σ v1 v2 v3 v4  h
  rw [f_X11_findBodies_125] at h
  refine j_iload C 4 rfl dX11_findBodies_125 ?_
  refine j_aload_n C 0 rfl rfl dX11_findBodies_127 ?_
  refine j_getG C in_X11 (by decide) cw_30 rfl 18 (by decide) mw_1023 (fun _ h => h) rfl dX11_findBodies_128 ?_
  refine j_icmp_ge (tgt := 167) C (by decide) dX11_findBodies_131 (fun hc1 => ?_) (fun hc1 => ?_)
  · replace h := (if_pos hc1).symm.trans h
    refine j_aload_n C 0 rfl rfl dX11_findBodies_167 ?_
    refine j_getG C in_X11 (by decide) cw_30 rfl 31 (by decide) mw_1036 (fun _ h => h) rfl dX11_findBodies_168 ?_
    refine j_iload_n C 1 rfl rfl dX11_findBodies_171 ?_
    refine j_aload_n C 0 rfl rfl dX11_findBodies_172 ?_
    refine j_getG C in_X11 (by decide) cw_30 rfl 19 (by decide) mw_1024 (fun _ h => h) rfl dX11_findBodies_173 ?_
    refine j_iload_n C 2 rfl rfl dX11_findBodies_176 ?_
    obtain ⟨hg2, h⟩ := gd_some h
    refine j_iald C (by decide) cw_31_19 hg2 dX11_findBodies_177 ?_
    obtain ⟨hg3, h⟩ := gd_some h
    refine j_iastP C (by decide) (po_M_trayOrder v1.toNatClampNeg (gI σ 19 v2.toNatClampNeg)) hg3 dX11_findBodies_178 ?_
    refine j_iload_n C 3 rfl rfl dX11_findBodies_179 ?_
    refine j_if_eq (tgt := 186) C (by decide) dX11_findBodies_180 (fun hc4 => ?_) (fun hc4 => ?_)
    · replace h := (if_pos hc4).symm.trans h
      refine j_iinc (v := v2 + (1 : Int32)) (L' := [(2, .int (v2 + (1 : Int32))), (0, .ref (ad 30 0)), (1, .int v1), (3, .int v3), (4, .int v4)]) C 2 rfl rfl (by decide) rfl dX11_findBodies_186 ?_
      refine j_goto (tgt := 112) C (by decide) dX11_findBodies_189 ?_
      exact j_sub [1, 2, 0] rfl (hk112 (wI σ 31 v1.toNatClampNeg (gI σ 19 v2.toNatClampNeg)) v1 (v2 + (1 : Int32)) h)
    · replace h := (if_neg hc4).symm.trans h
      refine j_iinc (v := v1 + (1 : Int32)) (L' := [(1, .int (v1 + (1 : Int32))), (0, .ref (ad 30 0)), (2, .int v2), (3, .int v3), (4, .int v4)]) C 1 rfl rfl (by decide) rfl dX11_findBodies_183 ?_
      refine j_iinc (v := v2 + (1 : Int32)) (L' := [(2, .int (v2 + (1 : Int32))), (1, .int (v1 + (1 : Int32))), (0, .ref (ad 30 0)), (3, .int v3), (4, .int v4)]) C 2 rfl rfl (by decide) rfl dX11_findBodies_186 ?_
      refine j_goto (tgt := 112) C (by decide) dX11_findBodies_189 ?_
      exact j_sub [2, 1, 0] rfl (hk112 (wI σ 31 v1.toNatClampNeg (gI σ 19 v2.toNatClampNeg)) (v1 + (1 : Int32)) (v2 + (1 : Int32)) h)
  · replace h := (if_neg hc1).symm.trans h
    refine j_iload C 4 rfl dX11_findBodies_134 ?_
    refine j_iload_n C 2 rfl rfl dX11_findBodies_136 ?_
    refine j_icmp_eq (tgt := 161) C (by decide) dX11_findBodies_137 (fun hc5 => ?_) (fun hc5 => ?_)
    · replace h := (if_pos hc5).symm.trans h
      refine j_iinc (v := v4 + (1 : Int32)) (L' := [(4, .int (v4 + (1 : Int32))), (0, .ref (ad 30 0)), (1, .int v1), (2, .int v2), (3, .int v3)]) C 4 rfl rfl (by decide) rfl dX11_findBodies_161 ?_
      refine j_goto (tgt := 125) C (by decide) dX11_findBodies_164 ?_
      exact j_sub [1, 2, 3, 4, 0] rfl (ih σ v1 v2 v3 (v4 + (1 : Int32)) h)
    · replace h := (if_neg hc5).symm.trans h
      refine j_aload_n C 0 rfl rfl dX11_findBodies_140 ?_
      refine j_getG C in_X11 (by decide) cw_30 rfl 19 (by decide) mw_1024 (fun _ h => h) rfl dX11_findBodies_141 ?_
      refine j_iload_n C 2 rfl rfl dX11_findBodies_144 ?_
      obtain ⟨hg6, h⟩ := gd_some h
      refine j_iald C (by decide) cw_31_19 hg6 dX11_findBodies_145 ?_
      refine j_aload_n C 0 rfl rfl dX11_findBodies_146 ?_
      refine j_getG C in_X11 (by decide) cw_30 rfl 19 (by decide) mw_1024 (fun _ h => h) rfl dX11_findBodies_147 ?_
      refine j_iload C 4 rfl dX11_findBodies_150 ?_
      obtain ⟨hg7, h⟩ := gd_some h
      refine j_iald C (by decide) cw_31_19 hg7 dX11_findBodies_152 ?_
      refine j_iconst (v := -1) C (by decide) dX11_findBodies_153 ?_
      refine j_ixor C dX11_findBodies_154 ?_
      refine j_iand C dX11_findBodies_155 ?_
      refine j_if_ne (tgt := 161) C (by decide) dX11_findBodies_156 (fun hc8 => ?_) (fun hc8 => ?_)
      · replace h := (if_neg hc8).symm.trans h
        refine j_iinc (v := v4 + (1 : Int32)) (L' := [(4, .int (v4 + (1 : Int32))), (0, .ref (ad 30 0)), (1, .int v1), (2, .int v2), (3, .int v3)]) C 4 rfl rfl (by decide) rfl dX11_findBodies_161 ?_
        refine j_goto (tgt := 125) C (by decide) dX11_findBodies_164 ?_
        exact j_sub [1, 2, 3, 4, 0] rfl (ih σ v1 v2 v3 (v4 + (1 : Int32)) h)
      · replace h := (if_pos hc8).symm.trans h
        refine j_iconst (v := 0) C (by decide) dX11_findBodies_159 ?_
        refine j_istore_n (L' := [(3, .int (0 : Int32)), (0, .ref (ad 30 0)), (1, .int v1), (2, .int v2), (4, .int v4)]) C rfl (by decide) rfl dX11_findBodies_160 ?_
        refine j_iinc (v := v4 + (1 : Int32)) (L' := [(4, .int (v4 + (1 : Int32))), (3, .int (0 : Int32)), (0, .ref (ad 30 0)), (1, .int v1), (2, .int v2)]) C 4 rfl rfl (by decide) rfl dX11_findBodies_161 ?_
        refine j_goto (tgt := 125) C (by decide) dX11_findBodies_164 ?_
        exact j_sub [2, 3, 4, 1, 0] rfl (ih σ v1 v2 (0 : Int32) (v4 + (1 : Int32)) h)
set_option maxRecDepth 100000 in
set_option maxHeartbeats 4000000 in
theorem t_X11_findBodies_112 {χ : Mem} {T : Nat → Mem} (C : Cx p s m args meth c cX11_findBodies 5 RX11 none COM g) {rr : Mem} : ∀ (n : Nat) (σ : Mem) (v1 : Int32) (v2 : Int32) (h : f_X11_findBodies_112 n σ v1 v2 = some rr), JJ p l e rm_X11_findBodies s m args below meth c 5 g ad (MQ below (PoV g ad χ T (rr)) args s 0 0 (geB g)) χ T σ 0 0 [(0, .ref (ad 30 0)), (1, .int v1), (2, .int v2)] 112 [] := by
  intro n
  induction n with
  | zero => intro  σ v1 v2  h; cases h
  | succ n ih =>
  intro  σ v1 v2  h
  rw [f_X11_findBodies_112] at h
  refine j_iload_n C 2 rfl rfl dX11_findBodies_112 ?_
  refine j_aload_n C 0 rfl rfl dX11_findBodies_113 ?_
  refine j_getG C in_X11 (by decide) cw_30 rfl 18 (by decide) mw_1023 (fun _ h => h) rfl dX11_findBodies_114 ?_
  refine j_icmp_ge (tgt := 192) C (by decide) dX11_findBodies_117 (fun hc1 => ?_) (fun hc1 => ?_)
  · replace h := (if_pos hc1).symm.trans h
    refine j_iconst (v := 0) C (by decide) dX11_findBodies_192 ?_
    refine j_istore_n (L' := [(2, .int (0 : Int32)), (0, .ref (ad 30 0)), (1, .int v1)]) C rfl (by decide) rfl dX11_findBodies_193 ?_
    exact j_sub [1, 2, 0] rfl (t_X11_findBodies_194 C FU σ v1 (0 : Int32) h)
  · replace h := (if_neg hc1).symm.trans h
    refine j_iconst (v := 1) C (by decide) dX11_findBodies_120 ?_
    refine j_istore_n (L' := [(3, .int (1 : Int32)), (0, .ref (ad 30 0)), (1, .int v1), (2, .int v2)]) C rfl (by decide) rfl dX11_findBodies_121 ?_
    refine j_iconst (v := 0) C (by decide) dX11_findBodies_122 ?_
    refine j_istore (L' := [(4, .int (0 : Int32)), (3, .int (1 : Int32)), (0, .ref (ad 30 0)), (1, .int v1), (2, .int v2)]) C (by decide) rfl dX11_findBodies_123 ?_
    exact j_sub [2, 3, 4, 1, 0] rfl (t_X11_findBodies_125 C ih FU σ v1 v2 (1 : Int32) (0 : Int32) h)
set_option maxRecDepth 100000 in
set_option maxHeartbeats 4000000 in
theorem t_X11_findBodies_55 {χ : Mem} {T : Nat → Mem} (C : Cx p s m args meth c cX11_findBodies 5 RX11 none COM g) {rr : Mem} {k7 : Mem → Int32 → Option (Mem)} (hk7 : ∀ (σ : Mem) (v1 : Int32) , k7 σ v1 = some rr → JJ p l e rm_X11_findBodies s m args below meth c 5 g ad (MQ below (PoV g ad χ T (rr)) args s 0 0 (geB g)) χ T σ 0 0 [(0, .ref (ad 30 0)), (1, .int v1)] 7 []) : ∀ (n : Nat) (σ : Mem) (v1 : Int32) (v3 : Int32) (h : f_X11_findBodies_55 k7 n σ v1 v3 = some rr), JJ p l e rm_X11_findBodies s m args below meth c 5 g ad (MQ below (PoV g ad χ T (rr)) args s 0 0 (geB g)) χ T σ 0 0 [(0, .ref (ad 30 0)), (1, .int v1), (3, .int v3)] 55 [] := by
  intro n
  induction n with
  | zero => intro  σ v1 v3  h; cases h
  | succ n ih =>
  intro  σ v1 v3  h
  rw [f_X11_findBodies_55] at h
  refine j_iload_n C 2 rfl rfl dX11_findBodies_55 ?_
  refine j_if_le (tgt := 95) C (by decide) dX11_findBodies_56 (fun hc1 => ?_) (fun hc1 => ?_)
  · replace h := (if_pos hc1).symm.trans h
    refine j_aload_n C 0 rfl rfl dX11_findBodies_95 ?_
    refine j_getG C in_X11 (by decide) cw_30 rfl 19 (by decide) mw_1024 (fun _ h => h) rfl dX11_findBodies_96 ?_
    refine j_iload_n C 2 rfl rfl dX11_findBodies_99 ?_
    refine j_iload_n C 1 rfl rfl dX11_findBodies_100 ?_
    obtain ⟨hg2, h⟩ := gd_some h
    refine j_iastP C (by decide) (po_M_body v3.toNatClampNeg v1) hg2 dX11_findBodies_101 ?_
    refine j_iinc (v := v1 + (1 : Int32)) (L' := [(1, .int (v1 + (1 : Int32))), (0, .ref (ad 30 0)), (3, .int v3)]) C 1 rfl rfl (by decide) rfl dX11_findBodies_102 ?_
    refine j_goto (tgt := 7) C (by decide) dX11_findBodies_105 ?_
    exact j_sub [1, 0] rfl (hk7 (wI σ 19 v3.toNatClampNeg v1) (v1 + (1 : Int32)) h)
  · replace h := (if_neg hc1).symm.trans h
    refine j_aload_n C 0 rfl rfl dX11_findBodies_59 ?_
    refine j_iload_n C 1 rfl rfl dX11_findBodies_60 ?_
    refine j_aload_n C 0 rfl rfl dX11_findBodies_61 ?_
    refine j_getG C in_X11 (by decide) cw_30 rfl 19 (by decide) mw_1024 (fun _ h => h) rfl dX11_findBodies_62 ?_
    refine j_iload_n C 2 rfl rfl dX11_findBodies_65 ?_
    refine j_iconst (v := 1) C (by decide) dX11_findBodies_66 ?_
    refine j_isub C dX11_findBodies_67 ?_
    obtain ⟨hg3, h⟩ := gd_some h
    refine j_iald C (by decide) cw_31_19 hg3 dX11_findBodies_68 ?_
    obtain ⟨q4, hq4, h⟩ := bi_some h
    refine j_callVi (As := [.int v1, .int (gI σ 19 (v3 - (1 : Int32)).toNatClampNeg)]) (rest := []) C (c_X11_isAhead hq4) (cwV 2 C.ts (good_V mw_1199 mw_1201 mw_50 mw_73 mw_1202) rfl rfl rfl (by decide +kernel) ⟨Nat.le_of_ble_eq_true rfl, Nat.le_of_ble_eq_true rfl⟩) (fun H hW => CW.rv C.k hW (by decide) cw_30 rfl) rfl rfl (Nat.le_of_ble_eq_true rfl) dX11_findBodies_69 ⟨Nat.zero_le _, Nat.zero_le _⟩ ?_
    refine j_if_eq (tgt := 95) C (by decide) dX11_findBodies_72 (fun hc5 => ?_) (fun hc5 => ?_)
    · replace h := (if_pos hc5).symm.trans h
      refine j_aload_n C 0 rfl rfl dX11_findBodies_95 ?_
      refine j_getG C in_X11 (by decide) cw_30 rfl 19 (by decide) mw_1024 (fun _ h => h) rfl dX11_findBodies_96 ?_
      refine j_iload_n C 2 rfl rfl dX11_findBodies_99 ?_
      refine j_iload_n C 1 rfl rfl dX11_findBodies_100 ?_
      obtain ⟨hg6, h⟩ := gd_some h
      refine j_iastP C (by decide) (po_M_body v3.toNatClampNeg v1) hg6 dX11_findBodies_101 ?_
      refine j_iinc (v := v1 + (1 : Int32)) (L' := [(1, .int (v1 + (1 : Int32))), (0, .ref (ad 30 0)), (3, .int v3)]) C 1 rfl rfl (by decide) rfl dX11_findBodies_102 ?_
      refine j_goto (tgt := 7) C (by decide) dX11_findBodies_105 ?_
      exact j_sub [1, 0] rfl (hk7 (wI σ 19 v3.toNatClampNeg v1) (v1 + (1 : Int32)) h)
    · replace h := (if_neg hc5).symm.trans h
      refine j_aload_n C 0 rfl rfl dX11_findBodies_75 ?_
      refine j_getG C in_X11 (by decide) cw_30 rfl 19 (by decide) mw_1024 (fun _ h => h) rfl dX11_findBodies_76 ?_
      refine j_iload_n C 2 rfl rfl dX11_findBodies_79 ?_
      refine j_aload_n C 0 rfl rfl dX11_findBodies_80 ?_
      refine j_getG C in_X11 (by decide) cw_30 rfl 19 (by decide) mw_1024 (fun _ h => h) rfl dX11_findBodies_81 ?_
      refine j_iload_n C 2 rfl rfl dX11_findBodies_84 ?_
      refine j_iconst (v := 1) C (by decide) dX11_findBodies_85 ?_
      refine j_isub C dX11_findBodies_86 ?_
      refine j_iald C (by decide) cw_31_19 hg3 dX11_findBodies_87 ?_
      obtain ⟨hg7, h⟩ := gd_some h
      refine j_iastP C (by decide) (po_M_body v3.toNatClampNeg (gI σ 19 (v3 - (1 : Int32)).toNatClampNeg)) hg7 dX11_findBodies_88 ?_
      refine j_iinc (v := v3 + (-1 : Int32)) (L' := [(3, .int (v3 + (-1 : Int32))), (0, .ref (ad 30 0)), (1, .int v1)]) C 2 rfl (congrArg (fun z => v3 + z) (by decide)) (by decide) rfl dX11_findBodies_89 ?_
      refine j_goto (tgt := 55) C (by decide) dX11_findBodies_92 ?_
      exact j_sub [1, 2, 0] rfl (ih (wI σ 19 v3.toNatClampNeg (gI σ 19 (v3 - (1 : Int32)).toNatClampNeg)) v1 (v3 + (-1 : Int32)) h)
set_option maxRecDepth 100000 in
set_option maxHeartbeats 4000000 in
theorem t_X11_findBodies_7 {χ : Mem} {T : Nat → Mem} (C : Cx p s m args meth c cX11_findBodies 5 RX11 none COM g) {rr : Mem} : ∀ (n : Nat) (σ : Mem) (v1 : Int32) (h : f_X11_findBodies_7 n σ v1 = some rr), JJ p l e rm_X11_findBodies s m args below meth c 5 g ad (MQ below (PoV g ad χ T (rr)) args s 0 0 (geB g)) χ T σ 0 0 [(0, .ref (ad 30 0)), (1, .int v1)] 7 [] := by
  intro n
  induction n with
  | zero => intro  σ v1  h; cases h
  | succ n ih =>
  intro  σ v1  h
  rw [f_X11_findBodies_7] at h
  refine j_iload_n C 1 rfl rfl dX11_findBodies_7 ?_
  refine j_iconst (v := 1) C (by decide) dX11_findBodies_8 ?_
  refine j_aload_n C 0 rfl rfl dX11_findBodies_9 ?_
  refine j_getG C in_X11 (by decide) cw_30 rfl 0 (by decide) mw_1005 (fun _ h => h) rfl dX11_findBodies_10 ?_
  refine j_ishl C dX11_findBodies_13 ?_
  refine j_icmp_ge (tgt := 108) C (by decide) dX11_findBodies_14 (fun hc1 => ?_) (fun hc1 => ?_)
  · replace h := (if_pos hc1).symm.trans h
    refine j_iconst (v := 0) C (by decide) dX11_findBodies_108 ?_
    refine j_istore_n (L' := [(1, .int (0 : Int32)), (0, .ref (ad 30 0))]) C rfl (by decide) rfl dX11_findBodies_109 ?_
    refine j_iconst (v := 0) C (by decide) dX11_findBodies_110 ?_
    refine j_istore_n (L' := [(2, .int (0 : Int32)), (1, .int (0 : Int32)), (0, .ref (ad 30 0))]) C rfl (by decide) rfl dX11_findBodies_111 ?_
    exact j_sub [2, 1, 0] rfl (t_X11_findBodies_112 C FU σ (0 : Int32) (0 : Int32) h)
  · replace h := (if_neg hc1).symm.trans h
    refine j_iload_n C 1 rfl rfl dX11_findBodies_17 ?_
    obtain ⟨q2, hq2, h⟩ := bi_some h
    refine j_callSi (As := [.int v1]) (rest := []) C (c_X11_size hq2) (va_cwS 1 C.ts (good_S mw_1184 mw_1185 mw_73 mw_1186) rfl rfl rfl (by decide +kernel) ⟨Nat.le_of_ble_eq_true rfl, Nat.le_of_ble_eq_true rfl⟩) rfl rfl (Nat.le_of_ble_eq_true rfl) dX11_findBodies_18 ⟨Nat.zero_le _, Nat.zero_le _⟩ ?_
    refine j_istore_n (L' := [(2, .int q2), (0, .ref (ad 30 0)), (1, .int v1)]) C rfl (by decide) rfl dX11_findBodies_21 ?_
    refine j_iload_n C 0 rfl rfl dX11_findBodies_22 ?_
    refine j_iconst (v := 2) C (by decide) dX11_findBodies_23 ?_
    refine j_icmp_lt (tgt := 102) C (by decide) dX11_findBodies_24 (fun hc3 => ?_) (fun hc3 => ?_)
    · replace h := (if_pos hc3).symm.trans h
      refine j_iinc (v := v1 + (1 : Int32)) (L' := [(1, .int (v1 + (1 : Int32))), (2, .int q2), (0, .ref (ad 30 0))]) C 2 rfl rfl (by decide) rfl dX11_findBodies_102 ?_
      refine j_goto (tgt := 7) C (by decide) dX11_findBodies_105 ?_
      exact j_sub [2, 0] rfl (ih σ (v1 + (1 : Int32)) h)
    · replace h := (if_neg hc3).symm.trans h
      refine j_aload_n C 1 rfl rfl dX11_findBodies_27 ?_
      refine j_iload_n C 2 rfl rfl dX11_findBodies_28 ?_
      obtain ⟨q4, hq4, h⟩ := bi_some h
      refine j_callVi (As := [.int v1]) (rest := []) C (c_X11_even hq4) (cwV 1 C.ts (good_V mw_1187 mw_1189 mw_47 mw_73 mw_1190) rfl rfl rfl (by decide +kernel) ⟨Nat.le_of_ble_eq_true rfl, Nat.le_of_ble_eq_true rfl⟩) (fun H hW => CW.rv C.k hW (by decide) cw_30 rfl) rfl rfl (Nat.le_of_ble_eq_true rfl) dX11_findBodies_29 ⟨Nat.zero_le _, Nat.zero_le _⟩ ?_
      refine j_iconst (v := 2) C (by decide) dX11_findBodies_32 ?_
      refine j_iload_n C 0 rfl rfl dX11_findBodies_33 ?_
      refine j_imul C dX11_findBodies_34 ?_
      refine j_iconst (v := 3) C (by decide) dX11_findBodies_35 ?_
      refine j_isub C dX11_findBodies_36 ?_
      refine j_icmp_eq (tgt := 43) C (by decide) dX11_findBodies_37 (fun hc5 => ?_) (fun hc5 => ?_)
      · replace h := (if_pos hc5).symm.trans h
        refine j_aload_n C 1 rfl rfl dX11_findBodies_43 ?_
        refine j_dup C rfl dX11_findBodies_44 ?_
        refine j_getG C in_X11 (by decide) cw_30 rfl 18 (by decide) mw_1023 (fun _ h => h) rfl dX11_findBodies_45 ?_
        refine j_dup_x1 C rfl rfl dX11_findBodies_48 ?_
        refine j_iconst (v := 1) C (by decide) dX11_findBodies_49 ?_
        refine j_iadd C dX11_findBodies_50 ?_
        refine j_putI C in_X11 tyX11_ok nmX11 rfl 18 (by decide) (by decide) (po_M_bodies ((gI q4.1 18 0) + (1 : Int32))) mw_1023 (fun _ h => h) rfl (tyX11_ok 18 (by decide)) (Nat.le_of_ble_eq_true rfl) dX11_findBodies_51 ?_
        refine j_istore_n (L' := [(3, .int (gI q4.1 18 0)), (2, .int q2), (0, .ref (ad 30 0)), (1, .int v1)]) C rfl (by decide) rfl dX11_findBodies_54 ?_
        exact j_sub [2, 3, 0] rfl (t_X11_findBodies_55 C ih FU (wI q4.1 18 0 ((gI q4.1 18 0) + (1 : Int32))) v1 (gI q4.1 18 0) h)
      · replace h := (if_neg hc5).symm.trans h
        refine j_goto (tgt := 102) C (by decide) dX11_findBodies_40 ?_
        refine j_iinc (v := v1 + (1 : Int32)) (L' := [(1, .int (v1 + (1 : Int32))), (2, .int q2), (0, .ref (ad 30 0))]) C 2 rfl rfl (by decide) rfl dX11_findBodies_102 ?_
        refine j_goto (tgt := 7) C (by decide) dX11_findBodies_105 ?_
        exact j_sub [2, 0] rfl (ih q4.1 (v1 + (1 : Int32)) h)
set_option maxRecDepth 100000 in
set_option maxHeartbeats 4000000 in
theorem t_X11_findBodies_0 {χ : Mem} {T : Nat → Mem} (C : Cx p s m args meth c cX11_findBodies 5 RX11 none COM g) {rr : Mem} (σ : Mem) (h : f_X11_findBodies_0 σ = some rr) : JJ p l e rm_X11_findBodies s m args below meth c 5 g ad (MQ below (PoV g ad χ T (rr)) args s 0 0 (geB g)) χ T σ 0 0 [(0, .ref (ad 30 0))] 0 [] := by
  rw [f_X11_findBodies_0] at h
  refine j_aload_n C 0 rfl rfl dX11_findBodies_0 ?_
  refine j_iconst (v := 0) C (by decide) dX11_findBodies_1 ?_
  refine j_putI C in_X11 tyX11_ok nmX11 rfl 18 (by decide) (by decide) (po_M_bodies (0 : Int32)) mw_1023 (fun _ h => h) rfl (tyX11_ok 18 (by decide)) (Nat.le_of_ble_eq_true rfl) dX11_findBodies_2 ?_
  refine j_iconst (v := 0) C (by decide) dX11_findBodies_5 ?_
  refine j_istore_n (L' := [(1, .int (0 : Int32)), (0, .ref (ad 30 0))]) C rfl (by decide) rfl dX11_findBodies_6 ?_
  exact j_sub [1, 0] rfl (t_X11_findBodies_7 C FU (wI σ 18 0 (0 : Int32)) (0 : Int32) h)
set_option maxRecDepth 100000 in
set_option maxHeartbeats 4000000 in
theorem c_X11_findBodies {l : Launch} {g : Gc} {ad : Nat → Nat → Nat} {χ : Mem} {T : Nat → Mem} {σ : Mem} {rr : Mem} (h : f_X11_findBodies σ = some rr) : Met l yX11_findBodies (WS yX11_findBodies cX11_findBodies 5 none) rm_X11_findBodies (PreW g ad χ T σ [.ref (ad 30 0)]) (PoV g ad χ T (rr)) 0 0 (geB g) := by
  refine j_metW (by decide) (Nat.le_of_ble_eq_true rfl) fun p e s m below meth c C hname => ?_
  rw [f_X11_findBodies] at h
  exact j_sub [0] rfl (t_X11_findBodies_0 C σ h)
set_option maxRecDepth 100000 in
set_option maxHeartbeats 4000000 in
theorem t_X11_cheapestLeft_4 {χ : Mem} {T : Nat → Mem} {σ : Mem} (C : Cx p s m args meth c cX11_cheapestLeft 3 RX11 (some .int) COM g) {rr : Int32} : ∀ (n : Nat) (v1 : Int32) (v2 : Int32) (h : f_X11_cheapestLeft_4 σ n v1 v2 = some rr), JJ p l e rm_X11_cheapestLeft s m args below meth c 3 g ad (MQ below (PoI g ad χ T σ rr) args s 0 0 (geB g)) χ T σ 0 0 [(0, .ref (ad 30 0)), (1, .int v1), (2, .int v2)] 4 [] := by
  intro n
  induction n with
  | zero => intro  v1 v2  h; cases h
  | succ n ih =>
  intro  v1 v2  h
  rw [f_X11_cheapestLeft_4] at h
  refine j_iload_n C 2 rfl rfl dX11_cheapestLeft_4 ?_
  refine j_aload_n C 0 rfl rfl dX11_cheapestLeft_5 ?_
  refine j_getG C in_X11 (by decide) cw_30 rfl 1 (by decide) mw_1006 (fun _ h => h) rfl dX11_cheapestLeft_6 ?_
  refine j_icmp_ge (tgt := 49) C (by decide) dX11_cheapestLeft_9 (fun hc1 => ?_) (fun hc1 => ?_)
  · replace h := (if_pos hc1).symm.trans h
    refine j_iload_n C 1 rfl rfl dX11_cheapestLeft_49 ?_
    obtain rfl := Option.some.inj h
    exact j_iret C rfl rfl (Nat.le_refl _) (Nat.le_refl _) dX11_cheapestLeft_50
  · replace h := (if_neg hc1).symm.trans h
    refine j_aload_n C 0 rfl rfl dX11_cheapestLeft_12 ?_
    refine j_getG C in_X11 (by decide) cw_30 rfl 22 (by decide) mw_1027 (fun _ h => h) rfl dX11_cheapestLeft_13 ?_
    refine j_iload_n C 2 rfl rfl dX11_cheapestLeft_16 ?_
    obtain ⟨hg2, h⟩ := gd_some h
    refine j_zald C (by decide) cw_31_22 hg2 dX11_cheapestLeft_17 ?_
    refine j_if_ne (tgt := 43) C (by decide) dX11_cheapestLeft_18 (fun hc3 => ?_) (fun hc3 => ?_)
    · replace h := (if_neg hc3).symm.trans h
      refine j_iinc (v := v2 + (1 : Int32)) (L' := [(2, .int (v2 + (1 : Int32))), (0, .ref (ad 30 0)), (1, .int v1)]) C 2 rfl rfl (by decide) rfl dX11_cheapestLeft_43 ?_
      refine j_goto (tgt := 4) C (by decide) dX11_cheapestLeft_46 ?_
      exact j_sub [1, 2, 0] rfl (ih v1 (v2 + (1 : Int32)) h)
    · replace h := (if_pos hc3).symm.trans h
      refine j_iload_n C 1 rfl rfl dX11_cheapestLeft_21 ?_
      refine j_iconst (v := -1) C (by decide) dX11_cheapestLeft_22 ?_
      refine j_icmp_eq (tgt := 41) C (by decide) dX11_cheapestLeft_23 (fun hc4 => ?_) (fun hc4 => ?_)
      · replace h := (if_pos hc4).symm.trans h
        refine j_iload_n C 2 rfl rfl dX11_cheapestLeft_41 ?_
        refine j_istore_n (L' := [(1, .int v2), (0, .ref (ad 30 0)), (2, .int v2)]) C rfl (by decide) rfl dX11_cheapestLeft_42 ?_
        refine j_iinc (v := v2 + (1 : Int32)) (L' := [(2, .int (v2 + (1 : Int32))), (1, .int v2), (0, .ref (ad 30 0))]) C 2 rfl rfl (by decide) rfl dX11_cheapestLeft_43 ?_
        refine j_goto (tgt := 4) C (by decide) dX11_cheapestLeft_46 ?_
        exact j_sub [2, 1, 0] rfl (ih v2 (v2 + (1 : Int32)) h)
      · replace h := (if_neg hc4).symm.trans h
        refine j_aload_n C 0 rfl rfl dX11_cheapestLeft_26 ?_
        refine j_getG C in_X11 (by decide) cw_30 rfl 10 (by decide) mw_1015 (fun _ h => h) rfl dX11_cheapestLeft_27 ?_
        refine j_iload_n C 2 rfl rfl dX11_cheapestLeft_30 ?_
        refine j_iald C (by decide) cw_31_10 hg2 dX11_cheapestLeft_31 ?_
        refine j_aload_n C 0 rfl rfl dX11_cheapestLeft_32 ?_
        refine j_getG C in_X11 (by decide) cw_30 rfl 10 (by decide) mw_1015 (fun _ h => h) rfl dX11_cheapestLeft_33 ?_
        refine j_iload_n C 1 rfl rfl dX11_cheapestLeft_36 ?_
        obtain ⟨hg5, h⟩ := gd_some h
        refine j_iald C (by decide) cw_31_10 hg5 dX11_cheapestLeft_37 ?_
        refine j_icmp_ge (tgt := 43) C (by decide) dX11_cheapestLeft_38 (fun hc6 => ?_) (fun hc6 => ?_)
        · replace h := (if_pos hc6).symm.trans h
          refine j_iinc (v := v2 + (1 : Int32)) (L' := [(2, .int (v2 + (1 : Int32))), (0, .ref (ad 30 0)), (1, .int v1)]) C 2 rfl rfl (by decide) rfl dX11_cheapestLeft_43 ?_
          refine j_goto (tgt := 4) C (by decide) dX11_cheapestLeft_46 ?_
          exact j_sub [1, 2, 0] rfl (ih v1 (v2 + (1 : Int32)) h)
        · replace h := (if_neg hc6).symm.trans h
          refine j_iload_n C 2 rfl rfl dX11_cheapestLeft_41 ?_
          refine j_istore_n (L' := [(1, .int v2), (0, .ref (ad 30 0)), (2, .int v2)]) C rfl (by decide) rfl dX11_cheapestLeft_42 ?_
          refine j_iinc (v := v2 + (1 : Int32)) (L' := [(2, .int (v2 + (1 : Int32))), (1, .int v2), (0, .ref (ad 30 0))]) C 2 rfl rfl (by decide) rfl dX11_cheapestLeft_43 ?_
          refine j_goto (tgt := 4) C (by decide) dX11_cheapestLeft_46 ?_
          exact j_sub [2, 1, 0] rfl (ih v2 (v2 + (1 : Int32)) h)
set_option maxRecDepth 100000 in
set_option maxHeartbeats 4000000 in
theorem t_X11_cheapestLeft_0 {χ : Mem} {T : Nat → Mem} {σ : Mem} (C : Cx p s m args meth c cX11_cheapestLeft 3 RX11 (some .int) COM g) {rr : Int32} (h : f_X11_cheapestLeft_0 σ = some rr) : JJ p l e rm_X11_cheapestLeft s m args below meth c 3 g ad (MQ below (PoI g ad χ T σ rr) args s 0 0 (geB g)) χ T σ 0 0 [(0, .ref (ad 30 0))] 0 [] := by
  rw [f_X11_cheapestLeft_0] at h
  refine j_iconst (v := -1) C (by decide) dX11_cheapestLeft_0 ?_
  refine j_istore_n (L' := [(1, .int (-1 : Int32)), (0, .ref (ad 30 0))]) C rfl (by decide) rfl dX11_cheapestLeft_1 ?_
  refine j_iconst (v := 0) C (by decide) dX11_cheapestLeft_2 ?_
  refine j_istore_n (L' := [(2, .int (0 : Int32)), (1, .int (-1 : Int32)), (0, .ref (ad 30 0))]) C rfl (by decide) rfl dX11_cheapestLeft_3 ?_
  exact j_sub [2, 1, 0] rfl (t_X11_cheapestLeft_4 C FU (-1 : Int32) (0 : Int32) h)
set_option maxRecDepth 100000 in
set_option maxHeartbeats 4000000 in
theorem c_X11_cheapestLeft {l : Launch} {g : Gc} {ad : Nat → Nat → Nat} {χ : Mem} {T : Nat → Mem} {σ : Mem} {rr : Int32} (h : f_X11_cheapestLeft σ = some rr) : Met l yX11_cheapestLeft (WS yX11_cheapestLeft cX11_cheapestLeft 3 (some .int)) rm_X11_cheapestLeft (PreW g ad χ T σ [.ref (ad 30 0)]) (PoI g ad χ T σ rr) 0 0 (geB g) := by
  refine j_metW (by decide) (Nat.le_of_ble_eq_true rfl) fun p e s m below meth c C hname => ?_
  rw [f_X11_cheapestLeft] at h
  exact j_sub [0] rfl (t_X11_cheapestLeft_0 C h)
set_option maxRecDepth 100000 in
set_option maxHeartbeats 4000000 in
theorem t_X11_makePlan_121 {χ : Mem} {T : Nat → Mem} (C : Cx p s m args meth c cX11_makePlan 4 RX11 none COM g) {rr : Mem} {k59 : Mem → Int32 → Int32 → Option (Mem)} (hk59 : ∀ (σ : Mem) (v1 : Int32) (v2 : Int32) , k59 σ v1 v2 = some rr → JJ p l e rm_X11_makePlan s m args below meth c 4 g ad (MQ below (PoV g ad χ T (rr)) args s 0 0 (geB g)) χ T σ 0 0 [(0, .ref (ad 30 0)), (1, .int v1), (2, .int v2)] 59 []) (σ : Mem) (v1 : Int32) (h : f_X11_makePlan_121 k59 σ v1 = some rr) : JJ p l e rm_X11_makePlan s m args below meth c 4 g ad (MQ below (PoV g ad χ T (rr)) args s 0 0 (geB g)) χ T σ 0 0 [(0, .ref (ad 30 0)), (1, .int v1)] 121 [] := by
  rw [f_X11_makePlan_121] at h
  refine j_aload_n C 0 rfl rfl dX11_makePlan_121 ?_
  obtain ⟨q1, hq1, h⟩ := bi_some h
  refine j_callVi (As := []) (rest := []) C (c_X11_cheapestLeft hq1) (cwV 0 C.ts (good_V mw_1288 mw_1290 mw_59 mw_73 mw_1291) rfl rfl rfl (by decide +kernel) ⟨Nat.le_of_ble_eq_true rfl, Nat.le_of_ble_eq_true rfl⟩) (fun H hW => CW.rv C.k hW (by decide) cw_30 rfl) rfl rfl (Nat.le_of_ble_eq_true rfl) dX11_makePlan_122 ⟨Nat.zero_le _, Nat.zero_le _⟩ ?_
  refine j_istore_n (L' := [(2, .int q1), (0, .ref (ad 30 0)), (1, .int v1)]) C rfl (by decide) rfl dX11_makePlan_125 ?_
  refine j_goto (tgt := 59) C (by decide) dX11_makePlan_126 ?_
  exact j_sub [1, 2, 0] rfl (hk59 σ v1 q1 h)
set_option maxRecDepth 100000 in
set_option maxHeartbeats 4000000 in
theorem t_X11_makePlan_59 {χ : Mem} {T : Nat → Mem} (C : Cx p s m args meth c cX11_makePlan 4 RX11 none COM g) {rr : Mem} : ∀ (n : Nat) (σ : Mem) (v1 : Int32) (v2 : Int32) (h : f_X11_makePlan_59 n σ v1 v2 = some rr), JJ p l e rm_X11_makePlan s m args below meth c 4 g ad (MQ below (PoV g ad χ T (rr)) args s 0 0 (geB g)) χ T σ 0 0 [(0, .ref (ad 30 0)), (1, .int v1), (2, .int v2)] 59 [] := by
  intro n
  induction n with
  | zero => intro  σ v1 v2  h; cases h
  | succ n ih =>
  intro  σ v1 v2  h
  rw [f_X11_makePlan_59] at h
  refine j_iload_n C 2 rfl rfl dX11_makePlan_59 ?_
  refine j_iconst (v := -1) C (by decide) dX11_makePlan_60 ?_
  refine j_icmp_eq (tgt := 129) C (by decide) dX11_makePlan_61 (fun hc1 => ?_) (fun hc1 => ?_)
  · replace h := (if_pos hc1).symm.trans h
    obtain rfl := Option.some.inj h
    exact j_vret C rfl (Nat.le_refl _) (Nat.le_refl _) dX11_makePlan_129
  · replace h := (if_neg hc1).symm.trans h
    refine j_aload_n C 0 rfl rfl dX11_makePlan_64 ?_
    refine j_getG C in_X11 (by decide) cw_30 rfl 22 (by decide) mw_1027 (fun _ h => h) rfl dX11_makePlan_65 ?_
    refine j_iload_n C 2 rfl rfl dX11_makePlan_68 ?_
    refine j_iconst (v := 1) C (by decide) dX11_makePlan_69 ?_
    obtain ⟨hg2, h⟩ := gd_some h
    refine j_zastP C (Or.inr rfl) (by decide) (po_M_chosen v2.toNatClampNeg (1 : Int32)) hg2 dX11_makePlan_70 ?_
    refine j_aload_n C 0 rfl rfl dX11_makePlan_71 ?_
    refine j_getG C in_X11 (by decide) cw_30 rfl 20 (by decide) mw_1025 (fun _ h => h) rfl dX11_makePlan_72 ?_
    refine j_iload_n C 2 rfl rfl dX11_makePlan_75 ?_
    refine j_iconst (v := 1) C (by decide) dX11_makePlan_76 ?_
    refine j_zastP C (Or.inr rfl) (by decide) (po_M_taken v2.toNatClampNeg (1 : Int32)) hg2 dX11_makePlan_77 ?_
    refine j_aload_n C 0 rfl rfl dX11_makePlan_78 ?_
    refine j_aload_n C 0 rfl rfl dX11_makePlan_79 ?_
    refine j_getG C in_X11 (by decide) cw_30 rfl 20 (by decide) mw_1025 (fun _ h => h) rfl dX11_makePlan_80 ?_
    obtain ⟨q3, hq3, h⟩ := bi_some h
    refine j_callVi (As := [.ref (ad 31 20)]) (rest := []) C (c_X11_motionsOf_taken hq3) (cwV 1 C.ts (good_V mw_1153 mw_1155 mw_40 mw_73 mw_1156) rfl rfl rfl (by decide +kernel) ⟨Nat.le_of_ble_eq_true rfl, Nat.le_of_ble_eq_true rfl⟩) (fun H hW => CW.rv C.k hW (by decide) cw_30 rfl) rfl rfl (Nat.le_of_ble_eq_true rfl) dX11_makePlan_83 ⟨Nat.zero_le _, Nat.zero_le _⟩ ?_
    refine j_istore_n (L' := [(3, .int q3.2), (0, .ref (ad 30 0)), (1, .int v1), (2, .int v2)]) C rfl (by decide) rfl dX11_makePlan_86 ?_
    refine j_iload_n C 0 rfl rfl dX11_makePlan_87 ?_
    refine j_iload_n C 2 rfl rfl dX11_makePlan_88 ?_
    refine j_icmp_ge (tgt := 114) C (by decide) dX11_makePlan_89 (fun hc4 => ?_) (fun hc4 => ?_)
    · replace h := (if_pos hc4).symm.trans h
      refine j_aload_n C 1 rfl rfl dX11_makePlan_114 ?_
      refine j_getG C in_X11 (by decide) cw_30 rfl 20 (by decide) mw_1025 (fun _ h => h) rfl dX11_makePlan_115 ?_
      refine j_iload_n C 3 rfl rfl dX11_makePlan_118 ?_
      refine j_iconst (v := 0) C (by decide) dX11_makePlan_119 ?_
      refine j_zastP C (Or.inl rfl) (by decide) (po_M_taken v2.toNatClampNeg (0 : Int32)) hg2 dX11_makePlan_120 ?_
      exact j_sub [1, 2] rfl (t_X11_makePlan_121 C ih (wI q3.1 20 v2.toNatClampNeg (0 : Int32)) v1 h)
    · replace h := (if_neg hc4).symm.trans h
      refine j_aload_n C 1 rfl rfl dX11_makePlan_92 ?_
      refine j_getG C in_X11 (by decide) cw_30 rfl 24 (by decide) mw_1029 (fun _ h => h) rfl dX11_makePlan_93 ?_
      refine j_aload_n C 1 rfl rfl dX11_makePlan_96 ?_
      refine j_dup C rfl dX11_makePlan_97 ?_
      refine j_getG C in_X11 (by decide) cw_30 rfl 23 (by decide) mw_1028 (fun _ h => h) rfl dX11_makePlan_98 ?_
      refine j_dup_x1 C rfl rfl dX11_makePlan_101 ?_
      refine j_iconst (v := 1) C (by decide) dX11_makePlan_102 ?_
      refine j_iadd C dX11_makePlan_103 ?_
      refine j_putI C in_X11 tyX11_ok nmX11 rfl 23 (by decide) (by decide) (po_M_planN ((gI q3.1 23 0) + (1 : Int32))) mw_1028 (fun _ h => h) rfl (tyX11_ok 23 (by decide)) (Nat.le_of_ble_eq_true rfl) dX11_makePlan_104 ?_
      refine j_iload_n C 3 rfl rfl dX11_makePlan_107 ?_
      obtain ⟨hg5, h⟩ := gd_some h
      refine j_iastP C (by decide) (po_M_plan ((gI q3.1 23 0).toNatClampNeg) v2) hg5 dX11_makePlan_108 ?_
      refine j_iload_n C 0 rfl rfl dX11_makePlan_109 ?_
      refine j_istore_n (L' := [(1, .int q3.2), (3, .int q3.2), (0, .ref (ad 30 0)), (2, .int v2)]) C rfl (by decide) rfl dX11_makePlan_110 ?_
      refine j_goto (tgt := 121) C (by decide) dX11_makePlan_111 ?_
      exact j_sub [2, 0] rfl (t_X11_makePlan_121 C ih (wI (wI q3.1 23 0 ((gI q3.1 23 0) + (1 : Int32))) 24 ((gI q3.1 23 0).toNatClampNeg) v2) q3.2 h)
set_option maxRecDepth 100000 in
set_option maxHeartbeats 4000000 in
theorem t_X11_makePlan_7 {χ : Mem} {T : Nat → Mem} (C : Cx p s m args meth c cX11_makePlan 4 RX11 none COM g) {rr : Mem} : ∀ (n : Nat) (σ : Mem) (v1 : Int32) (h : f_X11_makePlan_7 n σ v1 = some rr), JJ p l e rm_X11_makePlan s m args below meth c 4 g ad (MQ below (PoV g ad χ T (rr)) args s 0 0 (geB g)) χ T σ 0 0 [(0, .ref (ad 30 0)), (1, .int v1)] 7 [] := by
  intro n
  induction n with
  | zero => intro  σ v1  h; cases h
  | succ n ih =>
  intro  σ v1  h
  rw [f_X11_makePlan_7] at h
  refine j_iload_n C 1 rfl rfl dX11_makePlan_7 ?_
  refine j_aload_n C 0 rfl rfl dX11_makePlan_8 ?_
  refine j_getG C in_X11 (by decide) cw_30 rfl 1 (by decide) mw_1006 (fun _ h => h) rfl dX11_makePlan_9 ?_
  refine j_icmp_ge (tgt := 45) C (by decide) dX11_makePlan_12 (fun hc1 => ?_) (fun hc1 => ?_)
  · replace h := (if_pos hc1).symm.trans h
    refine j_aload_n C 0 rfl rfl dX11_makePlan_45 ?_
    refine j_aload_n C 0 rfl rfl dX11_makePlan_46 ?_
    refine j_getG C in_X11 (by decide) cw_30 rfl 20 (by decide) mw_1025 (fun _ h => h) rfl dX11_makePlan_47 ?_
    obtain ⟨q2, hq2, h⟩ := bi_some h
    refine j_callVi (As := [.ref (ad 31 20)]) (rest := []) C (c_X11_motionsOf_taken hq2) (cwV 1 C.ts (good_V mw_1153 mw_1155 mw_40 mw_73 mw_1156) rfl rfl rfl (by decide +kernel) ⟨Nat.le_of_ble_eq_true rfl, Nat.le_of_ble_eq_true rfl⟩) (fun H hW => CW.rv C.k hW (by decide) cw_30 rfl) rfl rfl (Nat.le_of_ble_eq_true rfl) dX11_makePlan_50 ⟨Nat.zero_le _, Nat.zero_le _⟩ ?_
    refine j_istore_n (L' := [(1, .int q2.2), (0, .ref (ad 30 0))]) C rfl (by decide) rfl dX11_makePlan_53 ?_
    refine j_aload_n C 1 rfl rfl dX11_makePlan_54 ?_
    obtain ⟨q3, hq3, h⟩ := bi_some h
    refine j_callVi (As := []) (rest := []) C (c_X11_cheapestLeft hq3) (cwV 0 C.ts (good_V mw_1288 mw_1290 mw_59 mw_73 mw_1291) rfl rfl rfl (by decide +kernel) ⟨Nat.le_of_ble_eq_true rfl, Nat.le_of_ble_eq_true rfl⟩) (fun H hW => CW.rv C.k hW (by decide) cw_30 rfl) rfl rfl (Nat.le_of_ble_eq_true rfl) dX11_makePlan_55 ⟨Nat.zero_le _, Nat.zero_le _⟩ ?_
    refine j_istore_n (L' := [(2, .int q3), (1, .int q2.2), (0, .ref (ad 30 0))]) C rfl (by decide) rfl dX11_makePlan_58 ?_
    exact j_sub [2, 1, 0] rfl (t_X11_makePlan_59 C FU q2.1 q2.2 q3 h)
  · replace h := (if_neg hc1).symm.trans h
    refine j_aload_n C 0 rfl rfl dX11_makePlan_15 ?_
    refine j_getG C in_X11 (by decide) cw_30 rfl 20 (by decide) mw_1025 (fun _ h => h) rfl dX11_makePlan_16 ?_
    refine j_iload_n C 1 rfl rfl dX11_makePlan_19 ?_
    refine j_aload_n C 0 rfl rfl dX11_makePlan_20 ?_
    refine j_getG C in_X11 (by decide) cw_30 rfl 11 (by decide) mw_1016 (fun _ h => h) rfl dX11_makePlan_21 ?_
    refine j_iload_n C 1 rfl rfl dX11_makePlan_24 ?_
    obtain ⟨hg4, h⟩ := gd_some h
    refine j_zald C (by decide) cw_31_11 hg4 dX11_makePlan_25 ?_
    obtain ⟨hg5, h⟩ := gd_some h
    refine j_zastP C hg5 (by decide) (po_M_taken v1.toNatClampNeg (gI σ 11 v1.toNatClampNeg)) hg4 dX11_makePlan_26 ?_
    refine j_aload_n C 0 rfl rfl dX11_makePlan_27 ?_
    refine j_getG C in_X11 (by decide) cw_30 rfl 22 (by decide) mw_1027 (fun _ h => h) rfl dX11_makePlan_28 ?_
    refine j_iload_n C 1 rfl rfl dX11_makePlan_31 ?_
    refine j_aload_n C 0 rfl rfl dX11_makePlan_32 ?_
    refine j_getG C in_X11 (by decide) cw_30 rfl 11 (by decide) mw_1016 (fun _ h => h) rfl dX11_makePlan_33 ?_
    refine j_iload_n C 1 rfl rfl dX11_makePlan_36 ?_
    refine j_zald C (by decide) cw_31_11 hg4 dX11_makePlan_37 ?_
    obtain ⟨hg6, h⟩ := gd_some h
    refine j_zastP C hg6 (by decide) (po_M_chosen v1.toNatClampNeg (gI (wI σ 20 v1.toNatClampNeg (gI σ 11 v1.toNatClampNeg)) 11 v1.toNatClampNeg)) hg4 dX11_makePlan_38 ?_
    refine j_iinc (v := v1 + (1 : Int32)) (L' := [(1, .int (v1 + (1 : Int32))), (0, .ref (ad 30 0))]) C 1 rfl rfl (by decide) rfl dX11_makePlan_39 ?_
    refine j_goto (tgt := 7) C (by decide) dX11_makePlan_42 ?_
    exact j_sub [1, 0] rfl (ih (wI (wI σ 20 v1.toNatClampNeg (gI σ 11 v1.toNatClampNeg)) 22 v1.toNatClampNeg (gI (wI σ 20 v1.toNatClampNeg (gI σ 11 v1.toNatClampNeg)) 11 v1.toNatClampNeg)) (v1 + (1 : Int32)) h)
set_option maxRecDepth 100000 in
set_option maxHeartbeats 4000000 in
theorem t_X11_makePlan_0 {χ : Mem} {T : Nat → Mem} (C : Cx p s m args meth c cX11_makePlan 4 RX11 none COM g) {rr : Mem} (σ : Mem) (h : f_X11_makePlan_0 σ = some rr) : JJ p l e rm_X11_makePlan s m args below meth c 4 g ad (MQ below (PoV g ad χ T (rr)) args s 0 0 (geB g)) χ T σ 0 0 [(0, .ref (ad 30 0))] 0 [] := by
  rw [f_X11_makePlan_0] at h
  refine j_aload_n C 0 rfl rfl dX11_makePlan_0 ?_
  refine j_iconst (v := 0) C (by decide) dX11_makePlan_1 ?_
  refine j_putI C in_X11 tyX11_ok nmX11 rfl 23 (by decide) (by decide) (po_M_planN (0 : Int32)) mw_1028 (fun _ h => h) rfl (tyX11_ok 23 (by decide)) (Nat.le_of_ble_eq_true rfl) dX11_makePlan_2 ?_
  refine j_iconst (v := 0) C (by decide) dX11_makePlan_5 ?_
  refine j_istore_n (L' := [(1, .int (0 : Int32)), (0, .ref (ad 30 0))]) C rfl (by decide) rfl dX11_makePlan_6 ?_
  exact j_sub [1, 0] rfl (t_X11_makePlan_7 C FU (wI σ 23 0 (0 : Int32)) (0 : Int32) h)
set_option maxRecDepth 100000 in
set_option maxHeartbeats 4000000 in
theorem c_X11_makePlan {l : Launch} {g : Gc} {ad : Nat → Nat → Nat} {χ : Mem} {T : Nat → Mem} {σ : Mem} {rr : Mem} (h : f_X11_makePlan σ = some rr) : Met l yX11_makePlan (WS yX11_makePlan cX11_makePlan 4 none) rm_X11_makePlan (PreW g ad χ T σ [.ref (ad 30 0)]) (PoV g ad χ T (rr)) 0 0 (geB g) := by
  refine j_metW (by decide) (Nat.le_of_ble_eq_true rfl) fun p e s m below meth c C hname => ?_
  rw [f_X11_makePlan] at h
  exact j_sub [0] rfl (t_X11_makePlan_0 C σ h)
set_option maxRecDepth 100000 in
set_option maxHeartbeats 4000000 in
theorem t_X11_pin_0 {χ : Mem} {T : Nat → Mem} (C : Cx p s m args meth c cX11_pin 3 RX11 (some .int) COM g) {rr : Mem × Int32} (σ : Mem) (a1 : Int32) (a2 : Int32) (h : f_X11_pin_0 σ a1 a2 = some rr) : JJ p l e rm_X11_pin s m args below meth c 3 g ad (MQ below (PoI g ad χ T (rr.1) rr.2) args s 0 0 (geB g)) χ T σ 0 0 [(0, .ref (ad 30 0)), (1, .int a1), (2, .int a2)] 0 [] := by
  rw [f_X11_pin_0] at h
  refine j_iload_n C 1 rfl rfl dX11_pin_0 ?_
  obtain ⟨q1, hq1, h⟩ := bi_some h
  refine j_callSi (As := [.int a1]) (rest := []) C (c_X11_isPlace hq1) (va_cwS 1 C.ts (good_S mw_1106 mw_1107 mw_73 mw_1108) rfl rfl rfl (by decide +kernel) ⟨Nat.le_of_ble_eq_true rfl, Nat.le_of_ble_eq_true rfl⟩) rfl rfl (Nat.le_of_ble_eq_true rfl) dX11_pin_1 ⟨Nat.zero_le _, Nat.zero_le _⟩ ?_
  refine j_if_eq (tgt := 14) C (by decide) dX11_pin_4 (fun hc2 => ?_) (fun hc2 => ?_)
  · replace h := (if_pos hc2).symm.trans h
    refine j_bipush (v := -2) C (by decide) dX11_pin_14 ?_
    obtain rfl := Option.some.inj h
    exact j_iret C rfl rfl (Nat.le_refl _) (Nat.le_refl _) dX11_pin_16
  · replace h := (if_neg hc2).symm.trans h
    refine j_iload_n C 2 rfl rfl dX11_pin_7 ?_
    obtain ⟨q3, hq3, h⟩ := bi_some h
    refine j_callSi (As := [.int a2]) (rest := []) C (c_X11_isPlace hq3) (va_cwS 1 C.ts (good_S mw_1106 mw_1107 mw_73 mw_1108) rfl rfl rfl (by decide +kernel) ⟨Nat.le_of_ble_eq_true rfl, Nat.le_of_ble_eq_true rfl⟩) rfl rfl (Nat.le_of_ble_eq_true rfl) dX11_pin_8 ⟨Nat.zero_le _, Nat.zero_le _⟩ ?_
    refine j_if_ne (tgt := 17) C (by decide) dX11_pin_11 (fun hc4 => ?_) (fun hc4 => ?_)
    · replace h := (if_neg hc4).symm.trans h
      refine j_aload_n C 0 rfl rfl dX11_pin_17 ?_
      refine j_iload_n C 1 rfl rfl dX11_pin_18 ?_
      refine j_iload_n C 2 rfl rfl dX11_pin_19 ?_
      obtain ⟨q5, hq5, h⟩ := bi_some h
      refine j_callVi (As := [.int a1, .int a2]) (rest := []) C (c_X11_pinAt hq5) (cwV 2 C.ts (good_V mw_1109 mw_1111 mw_34 mw_73 mw_1112) rfl rfl rfl (by decide +kernel) ⟨Nat.le_of_ble_eq_true rfl, Nat.le_of_ble_eq_true rfl⟩) (fun H hW => CW.rv C.k hW (by decide) cw_30 rfl) rfl rfl (Nat.le_of_ble_eq_true rfl) dX11_pin_20 ⟨Nat.zero_le _, Nat.zero_le _⟩ ?_
      refine j_iconst (v := -1) C (by decide) dX11_pin_23 ?_
      refine j_icmp_eq (tgt := 30) C (by decide) dX11_pin_24 (fun hc6 => ?_) (fun hc6 => ?_)
      · replace h := (if_pos hc6).symm.trans h
        refine j_aload_n C 0 rfl rfl dX11_pin_30 ?_
        refine j_getG C in_X11 (by decide) cw_30 rfl 0 (by decide) mw_1005 (fun _ h => h) rfl dX11_pin_31 ?_
        refine j_bipush (v := 6) C (by decide) dX11_pin_34 ?_
        refine j_icmp_ne (tgt := 42) C (by decide) dX11_pin_36 (fun hc7 => ?_) (fun hc7 => ?_)
        · replace h := (if_neg hc7).symm.trans h
          refine j_aload_n C 0 rfl rfl dX11_pin_42 ?_
          refine j_getG C in_X11 (by decide) cw_30 rfl 2 (by decide) mw_1007 (fun _ h => h) rfl dX11_pin_43 ?_
          refine j_aload_n C 0 rfl rfl dX11_pin_46 ?_
          refine j_getG C in_X11 (by decide) cw_30 rfl 0 (by decide) mw_1005 (fun _ h => h) rfl dX11_pin_47 ?_
          refine j_iload_n C 1 rfl rfl dX11_pin_50 ?_
          obtain ⟨hg8, h⟩ := gd_some h
          refine j_iastP C (by decide) (po_M_px ((gI σ 0 0).toNatClampNeg) a1) hg8 dX11_pin_51 ?_
          refine j_aload_n C 0 rfl rfl dX11_pin_52 ?_
          refine j_getG C in_X11 (by decide) cw_30 rfl 3 (by decide) mw_1008 (fun _ h => h) rfl dX11_pin_53 ?_
          refine j_aload_n C 0 rfl rfl dX11_pin_56 ?_
          refine j_getG C in_X11 (by decide) cw_30 rfl 0 (by decide) mw_1005 (fun _ h => h) rfl dX11_pin_57 ?_
          refine j_iload_n C 2 rfl rfl dX11_pin_60 ?_
          obtain ⟨hg9, h⟩ := gd_some h
          refine j_iastP C (by decide) (po_M_py ((gI (wI σ 2 ((gI σ 0 0).toNatClampNeg) a1) 0 0).toNatClampNeg) a2) hg9 dX11_pin_61 ?_
          refine j_aload_n C 0 rfl rfl dX11_pin_62 ?_
          refine j_getG C in_X11 (by decide) cw_30 rfl 4 (by decide) mw_1009 (fun _ h => h) rfl dX11_pin_63 ?_
          refine j_aload_n C 0 rfl rfl dX11_pin_66 ?_
          refine j_getG C in_X11 (by decide) cw_30 rfl 0 (by decide) mw_1005 (fun _ h => h) rfl dX11_pin_67 ?_
          refine j_iconst (v := 0) C (by decide) dX11_pin_70 ?_
          obtain ⟨hg10, h⟩ := gd_some h
          refine j_iastP C (by decide) (po_M_fx ((gI (wI (wI σ 2 ((gI σ 0 0).toNatClampNeg) a1) 3 ((gI (wI σ 2 ((gI σ 0 0).toNatClampNeg) a1) 0 0).toNatClampNeg) a2) 0 0).toNatClampNeg) (0 : Int32)) hg10 dX11_pin_71 ?_
          refine j_aload_n C 0 rfl rfl dX11_pin_72 ?_
          refine j_getG C in_X11 (by decide) cw_30 rfl 5 (by decide) mw_1010 (fun _ h => h) rfl dX11_pin_73 ?_
          refine j_aload_n C 0 rfl rfl dX11_pin_76 ?_
          refine j_getG C in_X11 (by decide) cw_30 rfl 0 (by decide) mw_1005 (fun _ h => h) rfl dX11_pin_77 ?_
          refine j_iconst (v := 0) C (by decide) dX11_pin_80 ?_
          obtain ⟨hg11, h⟩ := gd_some h
          refine j_iastP C (by decide) (po_M_fy ((gI (wI (wI (wI σ 2 ((gI σ 0 0).toNatClampNeg) a1) 3 ((gI (wI σ 2 ((gI σ 0 0).toNatClampNeg) a1) 0 0).toNatClampNeg) a2) 4 ((gI (wI (wI σ 2 ((gI σ 0 0).toNatClampNeg) a1) 3 ((gI (wI σ 2 ((gI σ 0 0).toNatClampNeg) a1) 0 0).toNatClampNeg) a2) 0 0).toNatClampNeg) (0 : Int32)) 0 0).toNatClampNeg) (0 : Int32)) hg11 dX11_pin_81 ?_
          refine j_aload_n C 0 rfl rfl dX11_pin_82 ?_
          refine j_getG C in_X11 (by decide) cw_30 rfl 6 (by decide) mw_1011 (fun _ h => h) rfl dX11_pin_83 ?_
          refine j_aload_n C 0 rfl rfl dX11_pin_86 ?_
          refine j_getG C in_X11 (by decide) cw_30 rfl 0 (by decide) mw_1005 (fun _ h => h) rfl dX11_pin_87 ?_
          refine j_iconst (v := 0) C (by decide) dX11_pin_90 ?_
          obtain ⟨hg12, h⟩ := gd_some h
          refine j_zastP C (Or.inl rfl) (by decide) (po_M_held ((gI (wI (wI (wI (wI σ 2 ((gI σ 0 0).toNatClampNeg) a1) 3 ((gI (wI σ 2 ((gI σ 0 0).toNatClampNeg) a1) 0 0).toNatClampNeg) a2) 4 ((gI (wI (wI σ 2 ((gI σ 0 0).toNatClampNeg) a1) 3 ((gI (wI σ 2 ((gI σ 0 0).toNatClampNeg) a1) 0 0).toNatClampNeg) a2) 0 0).toNatClampNeg) (0 : Int32)) 5 ((gI (wI (wI (wI σ 2 ((gI σ 0 0).toNatClampNeg) a1) 3 ((gI (wI σ 2 ((gI σ 0 0).toNatClampNeg) a1) 0 0).toNatClampNeg) a2) 4 ((gI (wI (wI σ 2 ((gI σ 0 0).toNatClampNeg) a1) 3 ((gI (wI σ 2 ((gI σ 0 0).toNatClampNeg) a1) 0 0).toNatClampNeg) a2) 0 0).toNatClampNeg) (0 : Int32)) 0 0).toNatClampNeg) (0 : Int32)) 0 0).toNatClampNeg) (0 : Int32)) hg12 dX11_pin_91 ?_
          refine j_aload_n C 0 rfl rfl dX11_pin_92 ?_
          refine j_dup C rfl dX11_pin_93 ?_
          refine j_getG C in_X11 (by decide) cw_30 rfl 0 (by decide) mw_1005 (fun _ h => h) rfl dX11_pin_94 ?_
          refine j_dup_x1 C rfl rfl dX11_pin_97 ?_
          refine j_iconst (v := 1) C (by decide) dX11_pin_98 ?_
          refine j_iadd C dX11_pin_99 ?_
          refine j_putI C in_X11 tyX11_ok nmX11 rfl 0 (by decide) (by decide) (po_M_pins ((gI (wI (wI (wI (wI (wI σ 2 ((gI σ 0 0).toNatClampNeg) a1) 3 ((gI (wI σ 2 ((gI σ 0 0).toNatClampNeg) a1) 0 0).toNatClampNeg) a2) 4 ((gI (wI (wI σ 2 ((gI σ 0 0).toNatClampNeg) a1) 3 ((gI (wI σ 2 ((gI σ 0 0).toNatClampNeg) a1) 0 0).toNatClampNeg) a2) 0 0).toNatClampNeg) (0 : Int32)) 5 ((gI (wI (wI (wI σ 2 ((gI σ 0 0).toNatClampNeg) a1) 3 ((gI (wI σ 2 ((gI σ 0 0).toNatClampNeg) a1) 0 0).toNatClampNeg) a2) 4 ((gI (wI (wI σ 2 ((gI σ 0 0).toNatClampNeg) a1) 3 ((gI (wI σ 2 ((gI σ 0 0).toNatClampNeg) a1) 0 0).toNatClampNeg) a2) 0 0).toNatClampNeg) (0 : Int32)) 0 0).toNatClampNeg) (0 : Int32)) 6 ((gI (wI (wI (wI (wI σ 2 ((gI σ 0 0).toNatClampNeg) a1) 3 ((gI (wI σ 2 ((gI σ 0 0).toNatClampNeg) a1) 0 0).toNatClampNeg) a2) 4 ((gI (wI (wI σ 2 ((gI σ 0 0).toNatClampNeg) a1) 3 ((gI (wI σ 2 ((gI σ 0 0).toNatClampNeg) a1) 0 0).toNatClampNeg) a2) 0 0).toNatClampNeg) (0 : Int32)) 5 ((gI (wI (wI (wI σ 2 ((gI σ 0 0).toNatClampNeg) a1) 3 ((gI (wI σ 2 ((gI σ 0 0).toNatClampNeg) a1) 0 0).toNatClampNeg) a2) 4 ((gI (wI (wI σ 2 ((gI σ 0 0).toNatClampNeg) a1) 3 ((gI (wI σ 2 ((gI σ 0 0).toNatClampNeg) a1) 0 0).toNatClampNeg) a2) 0 0).toNatClampNeg) (0 : Int32)) 0 0).toNatClampNeg) (0 : Int32)) 0 0).toNatClampNeg) (0 : Int32)) 0 0) + (1 : Int32))) mw_1005 (fun _ h => h) rfl (tyX11_ok 0 (by decide)) (Nat.le_of_ble_eq_true rfl) dX11_pin_100 ?_
          obtain rfl := Option.some.inj h
          exact j_iret C rfl rfl (Nat.le_refl _) (Nat.le_refl _) dX11_pin_103
        · replace h := (if_pos hc7).symm.trans h
          refine j_bipush (v := -4) C (by decide) dX11_pin_39 ?_
          obtain rfl := Option.some.inj h
          exact j_iret C rfl rfl (Nat.le_refl _) (Nat.le_refl _) dX11_pin_41
      · replace h := (if_neg hc6).symm.trans h
        refine j_bipush (v := -3) C (by decide) dX11_pin_27 ?_
        obtain rfl := Option.some.inj h
        exact j_iret C rfl rfl (Nat.le_refl _) (Nat.le_refl _) dX11_pin_29
    · replace h := (if_pos hc4).symm.trans h
      refine j_bipush (v := -2) C (by decide) dX11_pin_14 ?_
      obtain rfl := Option.some.inj h
      exact j_iret C rfl rfl (Nat.le_refl _) (Nat.le_refl _) dX11_pin_16
set_option maxRecDepth 100000 in
set_option maxHeartbeats 4000000 in
theorem c_X11_pin {l : Launch} {g : Gc} {ad : Nat → Nat → Nat} {χ : Mem} {T : Nat → Mem} {σ : Mem} {a1 : Int32} {a2 : Int32} {rr : Mem × Int32} (h : f_X11_pin σ a1 a2 = some rr) : Met l yX11_pin (WS yX11_pin cX11_pin 3 (some .int)) rm_X11_pin (PreW g ad χ T σ [.ref (ad 30 0), .int a1, .int a2]) (PoI g ad χ T (rr.1) rr.2) 0 0 (geB g) := by
  refine j_metW (by decide) (Nat.le_of_ble_eq_true rfl) fun p e s m below meth c C hname => ?_
  rw [f_X11_pin] at h
  exact j_sub [0, 1, 2] rfl (t_X11_pin_0 C σ a1 a2 h)
set_option maxRecDepth 100000 in
set_option maxHeartbeats 4000000 in
theorem t_X11_move_48 {χ : Mem} {T : Nat → Mem} (C : Cx p s m args meth c cX11_move 5 RX11 (some .int) COM g) {rr : Mem × Int32} (σ : Mem) (v1 : Int32) (v2 : Int32) (v3 : Int32) (h : f_X11_move_48 σ v1 v2 v3 = some rr) : JJ p l e rm_X11_move s m args below meth c 5 g ad (MQ below (PoI g ad χ T (rr.1) rr.2) args s 0 0 (geB g)) χ T σ 0 0 [(0, .ref (ad 30 0)), (1, .int v1), (2, .int v2), (3, .int v3)] 48 [] := by
  rw [f_X11_move_48] at h
  refine j_aload_n C 0 rfl rfl dX11_move_48 ?_
  refine j_getG C in_X11 (by decide) cw_30 rfl 2 (by decide) mw_1007 (fun _ h => h) rfl dX11_move_49 ?_
  refine j_iload_n C 1 rfl rfl dX11_move_52 ?_
  refine j_iload_n C 2 rfl rfl dX11_move_53 ?_
  obtain ⟨hg1, h⟩ := gd_some h
  refine j_iastP C (by decide) (po_M_px v1.toNatClampNeg v2) hg1 dX11_move_54 ?_
  refine j_aload_n C 0 rfl rfl dX11_move_55 ?_
  refine j_getG C in_X11 (by decide) cw_30 rfl 3 (by decide) mw_1008 (fun _ h => h) rfl dX11_move_56 ?_
  refine j_iload_n C 1 rfl rfl dX11_move_59 ?_
  refine j_iload_n C 3 rfl rfl dX11_move_60 ?_
  refine j_iastP C (by decide) (po_M_py v1.toNatClampNeg v3) hg1 dX11_move_61 ?_
  refine j_iconst (v := 1) C (by decide) dX11_move_62 ?_
  obtain rfl := Option.some.inj h
  exact j_iret C rfl rfl (Nat.le_refl _) (Nat.le_refl _) dX11_move_63
set_option maxRecDepth 100000 in
set_option maxHeartbeats 4000000 in
theorem t_X11_move_0 {χ : Mem} {T : Nat → Mem} (C : Cx p s m args meth c cX11_move 5 RX11 (some .int) COM g) {rr : Mem × Int32} (σ : Mem) (a1 : Int32) (a2 : Int32) (a3 : Int32) (h : f_X11_move_0 σ a1 a2 a3 = some rr) : JJ p l e rm_X11_move s m args below meth c 5 g ad (MQ below (PoI g ad χ T (rr.1) rr.2) args s 0 0 (geB g)) χ T σ 0 0 [(0, .ref (ad 30 0)), (1, .int a1), (2, .int a2), (3, .int a3)] 0 [] := by
  rw [f_X11_move_0] at h
  refine j_aload_n C 0 rfl rfl dX11_move_0 ?_
  refine j_iload_n C 1 rfl rfl dX11_move_1 ?_
  obtain ⟨q1, hq1, h⟩ := bi_some h
  refine j_callVi (As := [.int a1]) (rest := []) C (c_X11_isPin hq1) (cwV 1 C.ts (good_V mw_1117 mw_1119 mw_35 mw_73 mw_1120) rfl rfl rfl (by decide +kernel) ⟨Nat.le_of_ble_eq_true rfl, Nat.le_of_ble_eq_true rfl⟩) (fun H hW => CW.rv C.k hW (by decide) cw_30 rfl) rfl rfl (Nat.le_of_ble_eq_true rfl) dX11_move_2 ⟨Nat.zero_le _, Nat.zero_le _⟩ ?_
  refine j_if_eq (tgt := 22) C (by decide) dX11_move_5 (fun hc2 => ?_) (fun hc2 => ?_)
  · replace h := (if_pos hc2).symm.trans h
    refine j_bipush (v := -2) C (by decide) dX11_move_22 ?_
    obtain rfl := Option.some.inj h
    exact j_iret C rfl rfl (Nat.le_refl _) (Nat.le_refl _) dX11_move_24
  · replace h := (if_neg hc2).symm.trans h
    refine j_iload_n C 2 rfl rfl dX11_move_8 ?_
    obtain ⟨q3, hq3, h⟩ := bi_some h
    refine j_callSi (As := [.int a2]) (rest := []) C (c_X11_isPlace hq3) (va_cwS 1 C.ts (good_S mw_1106 mw_1107 mw_73 mw_1108) rfl rfl rfl (by decide +kernel) ⟨Nat.le_of_ble_eq_true rfl, Nat.le_of_ble_eq_true rfl⟩) rfl rfl (Nat.le_of_ble_eq_true rfl) dX11_move_9 ⟨Nat.zero_le _, Nat.zero_le _⟩ ?_
    refine j_if_eq (tgt := 22) C (by decide) dX11_move_12 (fun hc4 => ?_) (fun hc4 => ?_)
    · replace h := (if_pos hc4).symm.trans h
      refine j_bipush (v := -2) C (by decide) dX11_move_22 ?_
      obtain rfl := Option.some.inj h
      exact j_iret C rfl rfl (Nat.le_refl _) (Nat.le_refl _) dX11_move_24
    · replace h := (if_neg hc4).symm.trans h
      refine j_iload_n C 3 rfl rfl dX11_move_15 ?_
      obtain ⟨q5, hq5, h⟩ := bi_some h
      refine j_callSi (As := [.int a3]) (rest := []) C (c_X11_isPlace hq5) (va_cwS 1 C.ts (good_S mw_1106 mw_1107 mw_73 mw_1108) rfl rfl rfl (by decide +kernel) ⟨Nat.le_of_ble_eq_true rfl, Nat.le_of_ble_eq_true rfl⟩) rfl rfl (Nat.le_of_ble_eq_true rfl) dX11_move_16 ⟨Nat.zero_le _, Nat.zero_le _⟩ ?_
      refine j_if_ne (tgt := 25) C (by decide) dX11_move_19 (fun hc6 => ?_) (fun hc6 => ?_)
      · replace h := (if_neg hc6).symm.trans h
        refine j_aload_n C 0 rfl rfl dX11_move_25 ?_
        refine j_iload_n C 2 rfl rfl dX11_move_26 ?_
        refine j_iload_n C 3 rfl rfl dX11_move_27 ?_
        obtain ⟨q7, hq7, h⟩ := bi_some h
        refine j_callVi (As := [.int a2, .int a3]) (rest := []) C (c_X11_pinAt hq7) (cwV 2 C.ts (good_V mw_1109 mw_1111 mw_34 mw_73 mw_1112) rfl rfl rfl (by decide +kernel) ⟨Nat.le_of_ble_eq_true rfl, Nat.le_of_ble_eq_true rfl⟩) (fun H hW => CW.rv C.k hW (by decide) cw_30 rfl) rfl rfl (Nat.le_of_ble_eq_true rfl) dX11_move_28 ⟨Nat.zero_le _, Nat.zero_le _⟩ ?_
        refine j_istore (L' := [(4, .int q7), (0, .ref (ad 30 0)), (1, .int a1), (2, .int a2), (3, .int a3)]) C (by decide) rfl dX11_move_31 ?_
        refine j_iload C 0 rfl dX11_move_33 ?_
        refine j_iconst (v := -1) C (by decide) dX11_move_35 ?_
        refine j_icmp_eq (tgt := 48) C (by decide) dX11_move_36 (fun hc8 => ?_) (fun hc8 => ?_)
        · replace h := (if_pos hc8).symm.trans h
          exact j_sub [1, 2, 3, 4] rfl (t_X11_move_48 C σ a1 a2 a3 h)
        · replace h := (if_neg hc8).symm.trans h
          refine j_iload C 0 rfl dX11_move_39 ?_
          refine j_iload_n C 2 rfl rfl dX11_move_41 ?_
          refine j_icmp_eq (tgt := 48) C (by decide) dX11_move_42 (fun hc9 => ?_) (fun hc9 => ?_)
          · replace h := (if_pos hc9).symm.trans h
            exact j_sub [1, 2, 3, 4] rfl (t_X11_move_48 C σ a1 a2 a3 h)
          · replace h := (if_neg hc9).symm.trans h
            refine j_bipush (v := -3) C (by decide) dX11_move_45 ?_
            obtain rfl := Option.some.inj h
            exact j_iret C rfl rfl (Nat.le_refl _) (Nat.le_refl _) dX11_move_47
      · replace h := (if_pos hc6).symm.trans h
        refine j_bipush (v := -2) C (by decide) dX11_move_22 ?_
        obtain rfl := Option.some.inj h
        exact j_iret C rfl rfl (Nat.le_refl _) (Nat.le_refl _) dX11_move_24
set_option maxRecDepth 100000 in
set_option maxHeartbeats 4000000 in
theorem c_X11_move {l : Launch} {g : Gc} {ad : Nat → Nat → Nat} {χ : Mem} {T : Nat → Mem} {σ : Mem} {a1 : Int32} {a2 : Int32} {a3 : Int32} {rr : Mem × Int32} (h : f_X11_move σ a1 a2 a3 = some rr) : Met l yX11_move (WS yX11_move cX11_move 5 (some .int)) rm_X11_move (PreW g ad χ T σ [.ref (ad 30 0), .int a1, .int a2, .int a3]) (PoI g ad χ T (rr.1) rr.2) 0 0 (geB g) := by
  refine j_metW (by decide) (Nat.le_of_ble_eq_true rfl) fun p e s m below meth c C hname => ?_
  rw [f_X11_move] at h
  exact j_sub [0, 1, 2, 3] rfl (t_X11_move_0 C σ a1 a2 a3 h)
set_option maxRecDepth 100000 in
set_option maxHeartbeats 4000000 in
theorem t_X11_hold_26 {χ : Mem} {T : Nat → Mem} (C : Cx p s m args meth c cX11_hold 4 RX11 (some .int) COM g) {rr : Mem × Int32} (σ : Mem) (v1 : Int32) (v2 : Int32) (s0 : Int32) (h : f_X11_hold_26 σ v1 v2 s0 = some rr) : JJ p l e rm_X11_hold s m args below meth c 4 g ad (MQ below (PoI g ad χ T (rr.1) rr.2) args s 0 0 (geB g)) χ T σ 0 0 [(0, .ref (ad 30 0)), (1, .int v1), (2, .int v2)] 26 [.int s0] := by
  rw [f_X11_hold_26] at h
  refine j_istore_n (L' := [(3, .int s0), (0, .ref (ad 30 0)), (1, .int v1), (2, .int v2)]) C rfl (by decide) rfl dX11_hold_26 ?_
  refine j_aload_n C 1 rfl rfl dX11_hold_27 ?_
  refine j_getG C in_X11 (by decide) cw_30 rfl 6 (by decide) mw_1011 (fun _ h => h) rfl dX11_hold_28 ?_
  refine j_iload_n C 2 rfl rfl dX11_hold_31 ?_
  refine j_iload_n C 3 rfl rfl dX11_hold_32 ?_
  obtain ⟨hg1, h⟩ := gd_some h
  obtain ⟨hg2, h⟩ := gd_some h
  refine j_zastP C hg2 (by decide) (po_M_held v1.toNatClampNeg v2) hg1 dX11_hold_33 ?_
  refine j_iload_n C 3 rfl rfl dX11_hold_34 ?_
  refine j_if_eq (tgt := 52) C (by decide) dX11_hold_35 (fun hc3 => ?_) (fun hc3 => ?_)
  · replace h := (if_pos hc3).symm.trans h
    refine j_iload_n C 0 rfl rfl dX11_hold_52 ?_
    obtain rfl := Option.some.inj h
    exact j_iret C rfl rfl (Nat.le_refl _) (Nat.le_refl _) dX11_hold_53
  · replace h := (if_neg hc3).symm.trans h
    refine j_aload_n C 1 rfl rfl dX11_hold_38 ?_
    refine j_getG C in_X11 (by decide) cw_30 rfl 4 (by decide) mw_1009 (fun _ h => h) rfl dX11_hold_39 ?_
    refine j_iload_n C 2 rfl rfl dX11_hold_42 ?_
    refine j_iconst (v := 0) C (by decide) dX11_hold_43 ?_
    refine j_iastP C (by decide) (po_M_fx v1.toNatClampNeg (0 : Int32)) hg1 dX11_hold_44 ?_
    refine j_aload_n C 1 rfl rfl dX11_hold_45 ?_
    refine j_getG C in_X11 (by decide) cw_30 rfl 5 (by decide) mw_1010 (fun _ h => h) rfl dX11_hold_46 ?_
    refine j_iload_n C 2 rfl rfl dX11_hold_49 ?_
    refine j_iconst (v := 0) C (by decide) dX11_hold_50 ?_
    refine j_iastP C (by decide) (po_M_fy v1.toNatClampNeg (0 : Int32)) hg1 dX11_hold_51 ?_
    refine j_iload_n C 0 rfl rfl dX11_hold_52 ?_
    obtain rfl := Option.some.inj h
    exact j_iret C rfl rfl (Nat.le_refl _) (Nat.le_refl _) dX11_hold_53
set_option maxRecDepth 100000 in
set_option maxHeartbeats 4000000 in
theorem t_X11_hold_0 {χ : Mem} {T : Nat → Mem} (C : Cx p s m args meth c cX11_hold 4 RX11 (some .int) COM g) {rr : Mem × Int32} (σ : Mem) (a1 : Int32) (a2 : Int32) (h : f_X11_hold_0 σ a1 a2 = some rr) : JJ p l e rm_X11_hold s m args below meth c 4 g ad (MQ below (PoI g ad χ T (rr.1) rr.2) args s 0 0 (geB g)) χ T σ 0 0 [(0, .ref (ad 30 0)), (1, .int a1), (2, .int a2)] 0 [] := by
  rw [f_X11_hold_0] at h
  refine j_aload_n C 0 rfl rfl dX11_hold_0 ?_
  refine j_iload_n C 1 rfl rfl dX11_hold_1 ?_
  obtain ⟨q1, hq1, h⟩ := bi_some h
  refine j_callVi (As := [.int a1]) (rest := []) C (c_X11_isPin hq1) (cwV 1 C.ts (good_V mw_1117 mw_1119 mw_35 mw_73 mw_1120) rfl rfl rfl (by decide +kernel) ⟨Nat.le_of_ble_eq_true rfl, Nat.le_of_ble_eq_true rfl⟩) (fun H hW => CW.rv C.k hW (by decide) cw_30 rfl) rfl rfl (Nat.le_of_ble_eq_true rfl) dX11_hold_2 ⟨Nat.zero_le _, Nat.zero_le _⟩ ?_
  refine j_if_ne (tgt := 11) C (by decide) dX11_hold_5 (fun hc2 => ?_) (fun hc2 => ?_)
  · replace h := (if_neg hc2).symm.trans h
    refine j_aload_n C 0 rfl rfl dX11_hold_11 ?_
    refine j_getG C in_X11 (by decide) cw_30 rfl 6 (by decide) mw_1011 (fun _ h => h) rfl dX11_hold_12 ?_
    refine j_iload_n C 1 rfl rfl dX11_hold_15 ?_
    obtain ⟨hg3, h⟩ := gd_some h
    refine j_zald C (by decide) cw_31_6 hg3 dX11_hold_16 ?_
    refine j_iload_n C 2 rfl rfl dX11_hold_17 ?_
    refine j_icmp_eq (tgt := 25) C (by decide) dX11_hold_18 (fun hc4 => ?_) (fun hc4 => ?_)
    · replace h := (if_pos hc4).symm.trans h
      refine j_iconst (v := 0) C (by decide) dX11_hold_25 ?_
      exact j_sub [0, 1, 2] rfl (t_X11_hold_26 C σ a1 a2 (0 : Int32) h)
    · replace h := (if_neg hc4).symm.trans h
      refine j_iconst (v := 1) C (by decide) dX11_hold_21 ?_
      refine j_goto (tgt := 26) C (by decide) dX11_hold_22 ?_
      exact j_sub [0, 1, 2] rfl (t_X11_hold_26 C σ a1 a2 (1 : Int32) h)
  · replace h := (if_pos hc2).symm.trans h
    refine j_bipush (v := -2) C (by decide) dX11_hold_8 ?_
    obtain rfl := Option.some.inj h
    exact j_iret C rfl rfl (Nat.le_refl _) (Nat.le_refl _) dX11_hold_10
set_option maxRecDepth 100000 in
set_option maxHeartbeats 4000000 in
theorem c_X11_hold {l : Launch} {g : Gc} {ad : Nat → Nat → Nat} {χ : Mem} {T : Nat → Mem} {σ : Mem} {a1 : Int32} {a2 : Int32} {rr : Mem × Int32} (h : f_X11_hold σ a1 a2 = some rr) : Met l yX11_hold (WS yX11_hold cX11_hold 4 (some .int)) rm_X11_hold (PreW g ad χ T σ [.ref (ad 30 0), .int a1, .int a2]) (PoI g ad χ T (rr.1) rr.2) 0 0 (geB g) := by
  refine j_metW (by decide) (Nat.le_of_ble_eq_true rfl) fun p e s m below meth c C hname => ?_
  rw [f_X11_hold] at h
  exact j_sub [0, 1, 2] rfl (t_X11_hold_0 C σ a1 a2 h)
set_option maxRecDepth 100000 in
set_option maxHeartbeats 4000000 in
theorem t_X11_rod_199 {χ : Mem} {T : Nat → Mem} (C : Cx p s m args meth c cX11_rod 6 RX11 (some .int) COM g) {rr : Mem × Int32} (σ : Mem) (s0 : Int32) (s1 : Int32) (h : f_X11_rod_199 σ s0 s1 = some rr) : JJ p l e rm_X11_rod s m args below meth c 6 g ad (MQ below (PoI g ad χ T (rr.1) rr.2) args s 0 0 (geB g)) χ T σ 0 0 [(0, .ref (ad 30 0))] 199 [.int s0, .int s1, .ref (ad 31 11)] := by
  rw [f_X11_rod_199] at h
  obtain ⟨hg1, h⟩ := gd_some h
  obtain ⟨hg2, h⟩ := gd_some h
  refine j_zastP C hg2 (by decide) (po_M_isIn s1.toNatClampNeg s0) hg1 dX11_rod_199 ?_
  refine j_aload_n C 0 rfl rfl dX11_rod_200 ?_
  refine j_dup C rfl dX11_rod_201 ?_
  refine j_getG C in_X11 (by decide) cw_30 rfl 1 (by decide) mw_1006 (fun _ h => h) rfl dX11_rod_202 ?_
  refine j_dup_x1 C rfl rfl dX11_rod_205 ?_
  refine j_iconst (v := 1) C (by decide) dX11_rod_206 ?_
  refine j_iadd C dX11_rod_207 ?_
  refine j_putI C in_X11 tyX11_ok nmX11 rfl 1 (by decide) (by decide) (po_M_rods ((gI (wI σ 11 s1.toNatClampNeg s0) 1 0) + (1 : Int32))) mw_1006 (fun _ h => h) rfl (tyX11_ok 1 (by decide)) (Nat.le_of_ble_eq_true rfl) dX11_rod_208 ?_
  obtain rfl := Option.some.inj h
  exact j_iret C rfl rfl (Nat.le_refl _) (Nat.le_refl _) dX11_rod_211
set_option maxRecDepth 100000 in
set_option maxHeartbeats 4000000 in
theorem t_X11_rod_97 {χ : Mem} {T : Nat → Mem} (C : Cx p s m args meth c cX11_rod 6 RX11 (some .int) COM g) {rr : Mem × Int32} {k66 : Mem → Int32 → Int32 → Int32 → Int32 → Int32 → Option (Mem × Int32)} (hk66 : ∀ (σ : Mem) (v1 : Int32) (v2 : Int32) (v3 : Int32) (v4 : Int32) (v5 : Int32) , k66 σ v1 v2 v3 v4 v5 = some rr → JJ p l e rm_X11_rod s m args below meth c 6 g ad (MQ below (PoI g ad χ T (rr.1) rr.2) args s 0 0 (geB g)) χ T σ 0 0 [(0, .ref (ad 30 0)), (1, .int v1), (2, .int v2), (3, .int v3), (4, .int v4), (5, .int v5)] 66 []) (σ : Mem) (v1 : Int32) (v2 : Int32) (v3 : Int32) (v4 : Int32) (v5 : Int32) (h : f_X11_rod_97 k66 σ v1 v2 v3 v4 v5 = some rr) : JJ p l e rm_X11_rod s m args below meth c 6 g ad (MQ below (PoI g ad χ T (rr.1) rr.2) args s 0 0 (geB g)) χ T σ 0 0 [(0, .ref (ad 30 0)), (1, .int v1), (2, .int v2), (3, .int v3), (4, .int v4), (5, .int v5)] 97 [] := by
  rw [f_X11_rod_97] at h
  refine j_aload_n C 0 rfl rfl dX11_rod_97 ?_
  refine j_getG C in_X11 (by decide) cw_30 rfl 8 (by decide) mw_1013 (fun _ h => h) rfl dX11_rod_98 ?_
  refine j_iload C 5 rfl dX11_rod_101 ?_
  obtain ⟨hg1, h⟩ := gd_some h
  refine j_iald C (by decide) cw_31_8 hg1 dX11_rod_103 ?_
  refine j_iload_n C 3 rfl rfl dX11_rod_104 ?_
  refine j_icmp_ne (tgt := 122) C (by decide) dX11_rod_105 (fun hc2 => ?_) (fun hc2 => ?_)
  · replace h := (if_neg hc2).symm.trans h
    refine j_iinc (v := v5 + (1 : Int32)) (L' := [(5, .int (v5 + (1 : Int32))), (0, .ref (ad 30 0)), (1, .int v1), (2, .int v2), (3, .int v3), (4, .int v4)]) C 5 rfl rfl (by decide) rfl dX11_rod_122 ?_
    refine j_goto (tgt := 66) C (by decide) dX11_rod_125 ?_
    exact j_sub [1, 2, 3, 4, 5, 0] rfl (hk66 σ v1 v2 v3 v4 (v5 + (1 : Int32)) h)
  · replace h := (if_pos hc2).symm.trans h
    refine j_aload_n C 0 rfl rfl dX11_rod_108 ?_
    refine j_getG C in_X11 (by decide) cw_30 rfl 9 (by decide) mw_1014 (fun _ h => h) rfl dX11_rod_109 ?_
    refine j_iload C 5 rfl dX11_rod_112 ?_
    refine j_iald C (by decide) cw_31_9 hg1 dX11_rod_114 ?_
    refine j_iload_n C 2 rfl rfl dX11_rod_115 ?_
    refine j_icmp_ne (tgt := 122) C (by decide) dX11_rod_116 (fun hc3 => ?_) (fun hc3 => ?_)
    · replace h := (if_neg hc3).symm.trans h
      refine j_iinc (v := v5 + (1 : Int32)) (L' := [(5, .int (v5 + (1 : Int32))), (0, .ref (ad 30 0)), (1, .int v1), (2, .int v2), (3, .int v3), (4, .int v4)]) C 5 rfl rfl (by decide) rfl dX11_rod_122 ?_
      refine j_goto (tgt := 66) C (by decide) dX11_rod_125 ?_
      exact j_sub [1, 2, 3, 4, 5, 0] rfl (hk66 σ v1 v2 v3 v4 (v5 + (1 : Int32)) h)
    · replace h := (if_pos hc3).symm.trans h
      refine j_bipush (v := -3) C (by decide) dX11_rod_119 ?_
      obtain rfl := Option.some.inj h
      exact j_iret C rfl rfl (Nat.le_refl _) (Nat.le_refl _) dX11_rod_121
set_option maxRecDepth 100000 in
set_option maxHeartbeats 4000000 in
theorem t_X11_rod_66 {χ : Mem} {T : Nat → Mem} (C : Cx p s m args meth c cX11_rod 6 RX11 (some .int) COM g) {rr : Mem × Int32} : ∀ (n : Nat) (σ : Mem) (v1 : Int32) (v2 : Int32) (v3 : Int32) (v4 : Int32) (v5 : Int32) (h : f_X11_rod_66 n σ v1 v2 v3 v4 v5 = some rr), JJ p l e rm_X11_rod s m args below meth c 6 g ad (MQ below (PoI g ad χ T (rr.1) rr.2) args s 0 0 (geB g)) χ T σ 0 0 [(0, .ref (ad 30 0)), (1, .int v1), (2, .int v2), (3, .int v3), (4, .int v4), (5, .int v5)] 66 [] := by
  intro n
  induction n with
  | zero => intro  σ v1 v2 v3 v4 v5  h; cases h
  | succ n ih =>
  intro  σ v1 v2 v3 v4 v5  h
  rw [f_X11_rod_66] at h
  refine j_iload C 5 rfl dX11_rod_66 ?_
  refine j_aload_n C 0 rfl rfl dX11_rod_68 ?_
  refine j_getG C in_X11 (by decide) cw_30 rfl 1 (by decide) mw_1006 (fun _ h => h) rfl dX11_rod_69 ?_
  refine j_icmp_ge (tgt := 128) C (by decide) dX11_rod_72 (fun hc1 => ?_) (fun hc1 => ?_)
  · replace h := (if_pos hc1).symm.trans h
    refine j_aload_n C 0 rfl rfl dX11_rod_128 ?_
    refine j_getG C in_X11 (by decide) cw_30 rfl 1 (by decide) mw_1006 (fun _ h => h) rfl dX11_rod_129 ?_
    refine j_bipush (v := 15) C (by decide) dX11_rod_132 ?_
    refine j_icmp_ne (tgt := 140) C (by decide) dX11_rod_134 (fun hc2 => ?_) (fun hc2 => ?_)
    · replace h := (if_neg hc2).symm.trans h
      refine j_aload_n C 0 rfl rfl dX11_rod_140 ?_
      refine j_getG C in_X11 (by decide) cw_30 rfl 7 (by decide) mw_1012 (fun _ h => h) rfl dX11_rod_141 ?_
      refine j_aload_n C 0 rfl rfl dX11_rod_144 ?_
      refine j_getG C in_X11 (by decide) cw_30 rfl 1 (by decide) mw_1006 (fun _ h => h) rfl dX11_rod_145 ?_
      refine j_iload_n C 1 rfl rfl dX11_rod_148 ?_
      obtain ⟨hg3, h⟩ := gd_some h
      refine j_iastP C (by decide) (po_M_rKind ((gI σ 1 0).toNatClampNeg) v1) hg3 dX11_rod_149 ?_
      refine j_aload_n C 0 rfl rfl dX11_rod_150 ?_
      refine j_getG C in_X11 (by decide) cw_30 rfl 8 (by decide) mw_1013 (fun _ h => h) rfl dX11_rod_151 ?_
      refine j_aload_n C 0 rfl rfl dX11_rod_154 ?_
      refine j_getG C in_X11 (by decide) cw_30 rfl 1 (by decide) mw_1006 (fun _ h => h) rfl dX11_rod_155 ?_
      refine j_iload_n C 2 rfl rfl dX11_rod_158 ?_
      obtain ⟨hg4, h⟩ := gd_some h
      refine j_iastP C (by decide) (po_M_rA ((gI (wI σ 7 ((gI σ 1 0).toNatClampNeg) v1) 1 0).toNatClampNeg) v2) hg4 dX11_rod_159 ?_
      refine j_aload_n C 0 rfl rfl dX11_rod_160 ?_
      refine j_getG C in_X11 (by decide) cw_30 rfl 9 (by decide) mw_1014 (fun _ h => h) rfl dX11_rod_161 ?_
      refine j_aload_n C 0 rfl rfl dX11_rod_164 ?_
      refine j_getG C in_X11 (by decide) cw_30 rfl 1 (by decide) mw_1006 (fun _ h => h) rfl dX11_rod_165 ?_
      refine j_iload_n C 3 rfl rfl dX11_rod_168 ?_
      obtain ⟨hg5, h⟩ := gd_some h
      refine j_iastP C (by decide) (po_M_rB ((gI (wI (wI σ 7 ((gI σ 1 0).toNatClampNeg) v1) 8 ((gI (wI σ 7 ((gI σ 1 0).toNatClampNeg) v1) 1 0).toNatClampNeg) v2) 1 0).toNatClampNeg) v3) hg5 dX11_rod_169 ?_
      refine j_aload_n C 0 rfl rfl dX11_rod_170 ?_
      refine j_getG C in_X11 (by decide) cw_30 rfl 10 (by decide) mw_1015 (fun _ h => h) rfl dX11_rod_171 ?_
      refine j_aload_n C 0 rfl rfl dX11_rod_174 ?_
      refine j_getG C in_X11 (by decide) cw_30 rfl 1 (by decide) mw_1006 (fun _ h => h) rfl dX11_rod_175 ?_
      refine j_iload C 4 rfl dX11_rod_178 ?_
      obtain ⟨hg6, h⟩ := gd_some h
      refine j_iastP C (by decide) (po_M_rPrice ((gI (wI (wI (wI σ 7 ((gI σ 1 0).toNatClampNeg) v1) 8 ((gI (wI σ 7 ((gI σ 1 0).toNatClampNeg) v1) 1 0).toNatClampNeg) v2) 9 ((gI (wI (wI σ 7 ((gI σ 1 0).toNatClampNeg) v1) 8 ((gI (wI σ 7 ((gI σ 1 0).toNatClampNeg) v1) 1 0).toNatClampNeg) v2) 1 0).toNatClampNeg) v3) 1 0).toNatClampNeg) v4) hg6 dX11_rod_180 ?_
      refine j_aload_n C 0 rfl rfl dX11_rod_181 ?_
      refine j_getG C in_X11 (by decide) cw_30 rfl 11 (by decide) mw_1016 (fun _ h => h) rfl dX11_rod_182 ?_
      refine j_aload_n C 0 rfl rfl dX11_rod_185 ?_
      refine j_getG C in_X11 (by decide) cw_30 rfl 1 (by decide) mw_1006 (fun _ h => h) rfl dX11_rod_186 ?_
      refine j_iload_n C 1 rfl rfl dX11_rod_189 ?_
      refine j_iconst (v := 2) C (by decide) dX11_rod_190 ?_
      refine j_icmp_gt (tgt := 198) C (by decide) dX11_rod_191 (fun hc7 => ?_) (fun hc7 => ?_)
      · replace h := (if_pos hc7).symm.trans h
        refine j_iconst (v := 0) C (by decide) dX11_rod_198 ?_
        exact j_sub [0] rfl (t_X11_rod_199 C (wI (wI (wI (wI σ 7 ((gI σ 1 0).toNatClampNeg) v1) 8 ((gI (wI σ 7 ((gI σ 1 0).toNatClampNeg) v1) 1 0).toNatClampNeg) v2) 9 ((gI (wI (wI σ 7 ((gI σ 1 0).toNatClampNeg) v1) 8 ((gI (wI σ 7 ((gI σ 1 0).toNatClampNeg) v1) 1 0).toNatClampNeg) v2) 1 0).toNatClampNeg) v3) 10 ((gI (wI (wI (wI σ 7 ((gI σ 1 0).toNatClampNeg) v1) 8 ((gI (wI σ 7 ((gI σ 1 0).toNatClampNeg) v1) 1 0).toNatClampNeg) v2) 9 ((gI (wI (wI σ 7 ((gI σ 1 0).toNatClampNeg) v1) 8 ((gI (wI σ 7 ((gI σ 1 0).toNatClampNeg) v1) 1 0).toNatClampNeg) v2) 1 0).toNatClampNeg) v3) 1 0).toNatClampNeg) v4) (0 : Int32) (gI (wI (wI (wI (wI σ 7 ((gI σ 1 0).toNatClampNeg) v1) 8 ((gI (wI σ 7 ((gI σ 1 0).toNatClampNeg) v1) 1 0).toNatClampNeg) v2) 9 ((gI (wI (wI σ 7 ((gI σ 1 0).toNatClampNeg) v1) 8 ((gI (wI σ 7 ((gI σ 1 0).toNatClampNeg) v1) 1 0).toNatClampNeg) v2) 1 0).toNatClampNeg) v3) 10 ((gI (wI (wI (wI σ 7 ((gI σ 1 0).toNatClampNeg) v1) 8 ((gI (wI σ 7 ((gI σ 1 0).toNatClampNeg) v1) 1 0).toNatClampNeg) v2) 9 ((gI (wI (wI σ 7 ((gI σ 1 0).toNatClampNeg) v1) 8 ((gI (wI σ 7 ((gI σ 1 0).toNatClampNeg) v1) 1 0).toNatClampNeg) v2) 1 0).toNatClampNeg) v3) 1 0).toNatClampNeg) v4) 1 0) h)
      · replace h := (if_neg hc7).symm.trans h
        refine j_iconst (v := 1) C (by decide) dX11_rod_194 ?_
        refine j_goto (tgt := 199) C (by decide) dX11_rod_195 ?_
        exact j_sub [0] rfl (t_X11_rod_199 C (wI (wI (wI (wI σ 7 ((gI σ 1 0).toNatClampNeg) v1) 8 ((gI (wI σ 7 ((gI σ 1 0).toNatClampNeg) v1) 1 0).toNatClampNeg) v2) 9 ((gI (wI (wI σ 7 ((gI σ 1 0).toNatClampNeg) v1) 8 ((gI (wI σ 7 ((gI σ 1 0).toNatClampNeg) v1) 1 0).toNatClampNeg) v2) 1 0).toNatClampNeg) v3) 10 ((gI (wI (wI (wI σ 7 ((gI σ 1 0).toNatClampNeg) v1) 8 ((gI (wI σ 7 ((gI σ 1 0).toNatClampNeg) v1) 1 0).toNatClampNeg) v2) 9 ((gI (wI (wI σ 7 ((gI σ 1 0).toNatClampNeg) v1) 8 ((gI (wI σ 7 ((gI σ 1 0).toNatClampNeg) v1) 1 0).toNatClampNeg) v2) 1 0).toNatClampNeg) v3) 1 0).toNatClampNeg) v4) (1 : Int32) (gI (wI (wI (wI (wI σ 7 ((gI σ 1 0).toNatClampNeg) v1) 8 ((gI (wI σ 7 ((gI σ 1 0).toNatClampNeg) v1) 1 0).toNatClampNeg) v2) 9 ((gI (wI (wI σ 7 ((gI σ 1 0).toNatClampNeg) v1) 8 ((gI (wI σ 7 ((gI σ 1 0).toNatClampNeg) v1) 1 0).toNatClampNeg) v2) 1 0).toNatClampNeg) v3) 10 ((gI (wI (wI (wI σ 7 ((gI σ 1 0).toNatClampNeg) v1) 8 ((gI (wI σ 7 ((gI σ 1 0).toNatClampNeg) v1) 1 0).toNatClampNeg) v2) 9 ((gI (wI (wI σ 7 ((gI σ 1 0).toNatClampNeg) v1) 8 ((gI (wI σ 7 ((gI σ 1 0).toNatClampNeg) v1) 1 0).toNatClampNeg) v2) 1 0).toNatClampNeg) v3) 1 0).toNatClampNeg) v4) 1 0) h)
    · replace h := (if_pos hc2).symm.trans h
      refine j_bipush (v := -4) C (by decide) dX11_rod_137 ?_
      obtain rfl := Option.some.inj h
      exact j_iret C rfl rfl (Nat.le_refl _) (Nat.le_refl _) dX11_rod_139
  · replace h := (if_neg hc1).symm.trans h
    refine j_aload_n C 0 rfl rfl dX11_rod_75 ?_
    refine j_getG C in_X11 (by decide) cw_30 rfl 8 (by decide) mw_1013 (fun _ h => h) rfl dX11_rod_76 ?_
    refine j_iload C 5 rfl dX11_rod_79 ?_
    obtain ⟨hg8, h⟩ := gd_some h
    refine j_iald C (by decide) cw_31_8 hg8 dX11_rod_81 ?_
    refine j_iload_n C 2 rfl rfl dX11_rod_82 ?_
    refine j_icmp_ne (tgt := 97) C (by decide) dX11_rod_83 (fun hc9 => ?_) (fun hc9 => ?_)
    · replace h := (if_neg hc9).symm.trans h
      exact j_sub [0, 1, 2, 3, 4, 5] rfl (t_X11_rod_97 C ih σ v1 v2 v3 v4 v5 h)
    · replace h := (if_pos hc9).symm.trans h
      refine j_aload_n C 0 rfl rfl dX11_rod_86 ?_
      refine j_getG C in_X11 (by decide) cw_30 rfl 9 (by decide) mw_1014 (fun _ h => h) rfl dX11_rod_87 ?_
      refine j_iload C 5 rfl dX11_rod_90 ?_
      refine j_iald C (by decide) cw_31_9 hg8 dX11_rod_92 ?_
      refine j_iload_n C 3 rfl rfl dX11_rod_93 ?_
      refine j_icmp_eq (tgt := 119) C (by decide) dX11_rod_94 (fun hc10 => ?_) (fun hc10 => ?_)
      · replace h := (if_pos hc10).symm.trans h
        refine j_bipush (v := -3) C (by decide) dX11_rod_119 ?_
        obtain rfl := Option.some.inj h
        exact j_iret C rfl rfl (Nat.le_refl _) (Nat.le_refl _) dX11_rod_121
      · replace h := (if_neg hc10).symm.trans h
        exact j_sub [0, 1, 2, 3, 4, 5] rfl (t_X11_rod_97 C ih σ v1 v2 v3 v4 v5 h)
set_option maxRecDepth 100000 in
set_option maxHeartbeats 4000000 in
theorem t_X11_rod_0 {χ : Mem} {T : Nat → Mem} (C : Cx p s m args meth c cX11_rod 6 RX11 (some .int) COM g) {rr : Mem × Int32} (σ : Mem) (a1 : Int32) (a2 : Int32) (a3 : Int32) (a4 : Int32) (h : f_X11_rod_0 σ a1 a2 a3 a4 = some rr) : JJ p l e rm_X11_rod s m args below meth c 6 g ad (MQ below (PoI g ad χ T (rr.1) rr.2) args s 0 0 (geB g)) χ T σ 0 0 [(0, .ref (ad 30 0)), (1, .int a1), (2, .int a2), (3, .int a3), (4, .int a4)] 0 [] := by
  rw [f_X11_rod_0] at h
  refine j_iload_n C 1 rfl rfl dX11_rod_0 ?_
  refine j_if_lt (tgt := 30) C (by decide) dX11_rod_1 (fun hc1 => ?_) (fun hc1 => ?_)
  · replace h := (if_pos hc1).symm.trans h
    refine j_bipush (v := -2) C (by decide) dX11_rod_30 ?_
    obtain rfl := Option.some.inj h
    exact j_iret C rfl rfl (Nat.le_refl _) (Nat.le_refl _) dX11_rod_32
  · replace h := (if_neg hc1).symm.trans h
    refine j_iload_n C 1 rfl rfl dX11_rod_4 ?_
    refine j_iconst (v := 4) C (by decide) dX11_rod_5 ?_
    refine j_icmp_gt (tgt := 30) C (by decide) dX11_rod_6 (fun hc2 => ?_) (fun hc2 => ?_)
    · replace h := (if_pos hc2).symm.trans h
      refine j_bipush (v := -2) C (by decide) dX11_rod_30 ?_
      obtain rfl := Option.some.inj h
      exact j_iret C rfl rfl (Nat.le_refl _) (Nat.le_refl _) dX11_rod_32
    · replace h := (if_neg hc2).symm.trans h
      refine j_aload_n C 0 rfl rfl dX11_rod_9 ?_
      refine j_iload_n C 2 rfl rfl dX11_rod_10 ?_
      obtain ⟨q3, hq3, h⟩ := bi_some h
      refine j_callVi (As := [.int a2]) (rest := []) C (c_X11_isPin hq3) (cwV 1 C.ts (good_V mw_1117 mw_1119 mw_35 mw_73 mw_1120) rfl rfl rfl (by decide +kernel) ⟨Nat.le_of_ble_eq_true rfl, Nat.le_of_ble_eq_true rfl⟩) (fun H hW => CW.rv C.k hW (by decide) cw_30 rfl) rfl rfl (Nat.le_of_ble_eq_true rfl) dX11_rod_11 ⟨Nat.zero_le _, Nat.zero_le _⟩ ?_
      refine j_if_eq (tgt := 30) C (by decide) dX11_rod_14 (fun hc4 => ?_) (fun hc4 => ?_)
      · replace h := (if_pos hc4).symm.trans h
        refine j_bipush (v := -2) C (by decide) dX11_rod_30 ?_
        obtain rfl := Option.some.inj h
        exact j_iret C rfl rfl (Nat.le_refl _) (Nat.le_refl _) dX11_rod_32
      · replace h := (if_neg hc4).symm.trans h
        refine j_aload_n C 0 rfl rfl dX11_rod_17 ?_
        refine j_iload_n C 3 rfl rfl dX11_rod_18 ?_
        obtain ⟨q5, hq5, h⟩ := bi_some h
        refine j_callVi (As := [.int a3]) (rest := []) C (c_X11_isPin hq5) (cwV 1 C.ts (good_V mw_1117 mw_1119 mw_35 mw_73 mw_1120) rfl rfl rfl (by decide +kernel) ⟨Nat.le_of_ble_eq_true rfl, Nat.le_of_ble_eq_true rfl⟩) (fun H hW => CW.rv C.k hW (by decide) cw_30 rfl) rfl rfl (Nat.le_of_ble_eq_true rfl) dX11_rod_19 ⟨Nat.zero_le _, Nat.zero_le _⟩ ?_
        refine j_if_eq (tgt := 30) C (by decide) dX11_rod_22 (fun hc6 => ?_) (fun hc6 => ?_)
        · replace h := (if_pos hc6).symm.trans h
          refine j_bipush (v := -2) C (by decide) dX11_rod_30 ?_
          obtain rfl := Option.some.inj h
          exact j_iret C rfl rfl (Nat.le_refl _) (Nat.le_refl _) dX11_rod_32
        · replace h := (if_neg hc6).symm.trans h
          refine j_iload_n C 2 rfl rfl dX11_rod_25 ?_
          refine j_iload_n C 3 rfl rfl dX11_rod_26 ?_
          refine j_icmp_ne (tgt := 33) C (by decide) dX11_rod_27 (fun hc7 => ?_) (fun hc7 => ?_)
          · replace h := (if_neg hc7).symm.trans h
            refine j_iload_n C 1 rfl rfl dX11_rod_33 ?_
            refine j_iconst (v := 3) C (by decide) dX11_rod_34 ?_
            refine j_icmp_ne (tgt := 55) C (by decide) dX11_rod_35 (fun hc8 => ?_) (fun hc8 => ?_)
            · replace h := (if_neg hc8).symm.trans h
              refine j_iload C 4 rfl dX11_rod_55 ?_
              refine j_if_eq (tgt := 63) C (by decide) dX11_rod_57 (fun hc9 => ?_) (fun hc9 => ?_)
              · replace h := (if_pos hc9).symm.trans h
                refine j_iconst (v := 0) C (by decide) dX11_rod_63 ?_
                refine j_istore (L' := [(5, .int (0 : Int32)), (0, .ref (ad 30 0)), (1, .int a1), (2, .int a2), (3, .int a3), (4, .int a4)]) C (by decide) rfl dX11_rod_64 ?_
                exact j_sub [1, 2, 3, 4, 5, 0] rfl (t_X11_rod_66 C FU σ a1 a2 a3 a4 (0 : Int32) h)
              · replace h := (if_neg hc9).symm.trans h
                refine j_bipush (v := -2) C (by decide) dX11_rod_60 ?_
                obtain rfl := Option.some.inj h
                exact j_iret C rfl rfl (Nat.le_refl _) (Nat.le_refl _) dX11_rod_62
            · replace h := (if_pos hc8).symm.trans h
              refine j_iload C 4 rfl dX11_rod_38 ?_
              refine j_iconst (v := 1) C (by decide) dX11_rod_40 ?_
              refine j_icmp_lt (tgt := 60) C (by decide) dX11_rod_41 (fun hc10 => ?_) (fun hc10 => ?_)
              · replace h := (if_pos hc10).symm.trans h
                refine j_bipush (v := -2) C (by decide) dX11_rod_60 ?_
                obtain rfl := Option.some.inj h
                exact j_iret C rfl rfl (Nat.le_refl _) (Nat.le_refl _) dX11_rod_62
              · replace h := (if_neg hc10).symm.trans h
                refine j_iload C 4 rfl dX11_rod_44 ?_
                refine j_sipush (v := 1000) C (by decide) dX11_rod_46 ?_
                refine j_icmp_le (tgt := 63) C (by decide) dX11_rod_49 (fun hc11 => ?_) (fun hc11 => ?_)
                · replace h := (if_pos hc11).symm.trans h
                  refine j_iconst (v := 0) C (by decide) dX11_rod_63 ?_
                  refine j_istore (L' := [(5, .int (0 : Int32)), (0, .ref (ad 30 0)), (1, .int a1), (2, .int a2), (3, .int a3), (4, .int a4)]) C (by decide) rfl dX11_rod_64 ?_
                  exact j_sub [1, 2, 3, 4, 5, 0] rfl (t_X11_rod_66 C FU σ a1 a2 a3 a4 (0 : Int32) h)
                · replace h := (if_neg hc11).symm.trans h
                  refine j_goto (tgt := 60) C (by decide) dX11_rod_52 ?_
                  refine j_bipush (v := -2) C (by decide) dX11_rod_60 ?_
                  obtain rfl := Option.some.inj h
                  exact j_iret C rfl rfl (Nat.le_refl _) (Nat.le_refl _) dX11_rod_62
          · replace h := (if_pos hc7).symm.trans h
            refine j_bipush (v := -2) C (by decide) dX11_rod_30 ?_
            obtain rfl := Option.some.inj h
            exact j_iret C rfl rfl (Nat.le_refl _) (Nat.le_refl _) dX11_rod_32
set_option maxRecDepth 100000 in
set_option maxHeartbeats 4000000 in
theorem c_X11_rod {l : Launch} {g : Gc} {ad : Nat → Nat → Nat} {χ : Mem} {T : Nat → Mem} {σ : Mem} {a1 : Int32} {a2 : Int32} {a3 : Int32} {a4 : Int32} {rr : Mem × Int32} (h : f_X11_rod σ a1 a2 a3 a4 = some rr) : Met l yX11_rod (WS yX11_rod cX11_rod 6 (some .int)) rm_X11_rod (PreW g ad χ T σ [.ref (ad 30 0), .int a1, .int a2, .int a3, .int a4]) (PoI g ad χ T (rr.1) rr.2) 0 0 (geB g) := by
  refine j_metW (by decide) (Nat.le_of_ble_eq_true rfl) fun p e s m below meth c C hname => ?_
  rw [f_X11_rod] at h
  exact j_sub [0, 1, 2, 3, 4] rfl (t_X11_rod_0 C σ a1 a2 a3 a4 h)
set_option maxRecDepth 100000 in
set_option maxHeartbeats 4000000 in
theorem t_X11_put_0 {χ : Mem} {T : Nat → Mem} (C : Cx p s m args meth c cX11_put 4 RX11 (some .int) COM g) {rr : Mem × Int32} (σ : Mem) (a1 : Int32) (a2 : Int32) (h : f_X11_put_0 σ a1 a2 = some rr) : JJ p l e rm_X11_put s m args below meth c 4 g ad (MQ below (PoI g ad χ T (rr.1) rr.2) args s 0 0 (geB g)) χ T σ 0 0 [(0, .ref (ad 30 0)), (1, .int a1), (2, .int a2)] 0 [] := by
  rw [f_X11_put_0] at h
  refine j_aload_n C 0 rfl rfl dX11_put_0 ?_
  refine j_iload_n C 1 rfl rfl dX11_put_1 ?_
  obtain ⟨q1, hq1, h⟩ := bi_some h
  refine j_callVi (As := [.int a1]) (rest := []) C (c_X11_isRod hq1) (cwV 1 C.ts (good_V mw_1133 mw_1135 mw_36 mw_73 mw_1136) rfl rfl rfl (by decide +kernel) ⟨Nat.le_of_ble_eq_true rfl, Nat.le_of_ble_eq_true rfl⟩) (fun H hW => CW.rv C.k hW (by decide) cw_30 rfl) rfl rfl (Nat.le_of_ble_eq_true rfl) dX11_put_2 ⟨Nat.zero_le _, Nat.zero_le _⟩ ?_
  refine j_if_eq (tgt := 18) C (by decide) dX11_put_5 (fun hc2 => ?_) (fun hc2 => ?_)
  · replace h := (if_pos hc2).symm.trans h
    refine j_bipush (v := -2) C (by decide) dX11_put_18 ?_
    obtain rfl := Option.some.inj h
    exact j_iret C rfl rfl (Nat.le_refl _) (Nat.le_refl _) dX11_put_20
  · replace h := (if_neg hc2).symm.trans h
    refine j_aload_n C 0 rfl rfl dX11_put_8 ?_
    refine j_getG C in_X11 (by decide) cw_30 rfl 7 (by decide) mw_1012 (fun _ h => h) rfl dX11_put_9 ?_
    refine j_iload_n C 1 rfl rfl dX11_put_12 ?_
    obtain ⟨hg3, h⟩ := gd_some h
    refine j_iald C (by decide) cw_31_7 hg3 dX11_put_13 ?_
    refine j_iconst (v := 3) C (by decide) dX11_put_14 ?_
    refine j_icmp_ge (tgt := 21) C (by decide) dX11_put_15 (fun hc4 => ?_) (fun hc4 => ?_)
    · replace h := (if_pos hc4).symm.trans h
      refine j_aload_n C 0 rfl rfl dX11_put_21 ?_
      refine j_getG C in_X11 (by decide) cw_30 rfl 11 (by decide) mw_1016 (fun _ h => h) rfl dX11_put_22 ?_
      refine j_iload_n C 1 rfl rfl dX11_put_25 ?_
      refine j_zald C (by decide) cw_31_11 hg3 dX11_put_26 ?_
      refine j_iload_n C 2 rfl rfl dX11_put_27 ?_
      refine j_icmp_eq (tgt := 35) C (by decide) dX11_put_28 (fun hc5 => ?_) (fun hc5 => ?_)
      · replace h := (if_pos hc5).symm.trans h
        refine j_iconst (v := 0) C (by decide) dX11_put_35 ?_
        refine j_istore_n (L' := [(3, .int (0 : Int32)), (0, .ref (ad 30 0)), (1, .int a1), (2, .int a2)]) C rfl (by decide) rfl dX11_put_36 ?_
        refine j_aload_n C 1 rfl rfl dX11_put_37 ?_
        refine j_getG C in_X11 (by decide) cw_30 rfl 11 (by decide) mw_1016 (fun _ h => h) rfl dX11_put_38 ?_
        refine j_iload_n C 2 rfl rfl dX11_put_41 ?_
        refine j_iload_n C 3 rfl rfl dX11_put_42 ?_
        obtain ⟨hg6, h⟩ := gd_some h
        refine j_zastP C hg6 (by decide) (po_M_isIn a1.toNatClampNeg a2) hg3 dX11_put_43 ?_
        refine j_iload_n C 0 rfl rfl dX11_put_44 ?_
        obtain rfl := Option.some.inj h
        exact j_iret C rfl rfl (Nat.le_refl _) (Nat.le_refl _) dX11_put_45
      · replace h := (if_neg hc5).symm.trans h
        refine j_iconst (v := 1) C (by decide) dX11_put_31 ?_
        refine j_goto (tgt := 36) C (by decide) dX11_put_32 ?_
        refine j_istore_n (L' := [(3, .int (1 : Int32)), (0, .ref (ad 30 0)), (1, .int a1), (2, .int a2)]) C rfl (by decide) rfl dX11_put_36 ?_
        refine j_aload_n C 1 rfl rfl dX11_put_37 ?_
        refine j_getG C in_X11 (by decide) cw_30 rfl 11 (by decide) mw_1016 (fun _ h => h) rfl dX11_put_38 ?_
        refine j_iload_n C 2 rfl rfl dX11_put_41 ?_
        refine j_iload_n C 3 rfl rfl dX11_put_42 ?_
        obtain ⟨hg7, h⟩ := gd_some h
        refine j_zastP C hg7 (by decide) (po_M_isIn a1.toNatClampNeg a2) hg3 dX11_put_43 ?_
        refine j_iload_n C 0 rfl rfl dX11_put_44 ?_
        obtain rfl := Option.some.inj h
        exact j_iret C rfl rfl (Nat.le_refl _) (Nat.le_refl _) dX11_put_45
    · replace h := (if_neg hc4).symm.trans h
      refine j_bipush (v := -2) C (by decide) dX11_put_18 ?_
      obtain rfl := Option.some.inj h
      exact j_iret C rfl rfl (Nat.le_refl _) (Nat.le_refl _) dX11_put_20
set_option maxRecDepth 100000 in
set_option maxHeartbeats 4000000 in
theorem c_X11_put {l : Launch} {g : Gc} {ad : Nat → Nat → Nat} {χ : Mem} {T : Nat → Mem} {σ : Mem} {a1 : Int32} {a2 : Int32} {rr : Mem × Int32} (h : f_X11_put σ a1 a2 = some rr) : Met l yX11_put (WS yX11_put cX11_put 4 (some .int)) rm_X11_put (PreW g ad χ T σ [.ref (ad 30 0), .int a1, .int a2]) (PoI g ad χ T (rr.1) rr.2) 0 0 (geB g) := by
  refine j_metW (by decide) (Nat.le_of_ble_eq_true rfl) fun p e s m below meth c C hname => ?_
  rw [f_X11_put] at h
  exact j_sub [0, 1, 2] rfl (t_X11_put_0 C σ a1 a2 h)
set_option maxRecDepth 100000 in
set_option maxHeartbeats 4000000 in
theorem t_X11_count_129 {χ : Mem} {T : Nat → Mem} (C : Cx p s m args meth c cX11_count 4 RX11 (some .int) COM g) {rr : Mem × Int32} : ∀ (n : Nat) (σ : Mem) (v2 : Int32) (v3 : Int32) (h : f_X11_count_129 n σ v2 v3 = some rr), JJ p l e rm_X11_count s m args below meth c 4 g ad (MQ below (PoI g ad χ T (rr.1) rr.2) args s 0 0 (geB g)) χ T σ 0 0 [(0, .ref (ad 30 0)), (2, .int v2), (3, .int v3)] 129 [] := by
  intro n
  induction n with
  | zero => intro  σ v2 v3  h; cases h
  | succ n ih =>
  intro  σ v2 v3  h
  rw [f_X11_count_129] at h
  refine j_iload_n C 2 rfl rfl dX11_count_129 ?_
  refine j_aload_n C 0 rfl rfl dX11_count_130 ?_
  refine j_getG C in_X11 (by decide) cw_30 rfl 1 (by decide) mw_1006 (fun _ h => h) rfl dX11_count_131 ?_
  refine j_icmp_ge (tgt := 154) C (by decide) dX11_count_134 (fun hc1 => ?_) (fun hc1 => ?_)
  · replace h := (if_pos hc1).symm.trans h
    refine j_iload_n C 1 rfl rfl dX11_count_154 ?_
    obtain rfl := Option.some.inj h
    exact j_iret C rfl rfl (Nat.le_refl _) (Nat.le_refl _) dX11_count_155
  · replace h := (if_neg hc1).symm.trans h
    refine j_aload_n C 0 rfl rfl dX11_count_137 ?_
    refine j_iload_n C 2 rfl rfl dX11_count_138 ?_
    obtain ⟨q2, hq2, h⟩ := bi_some h
    refine j_callVi (As := [.int v3]) (rest := []) C (c_X11_isNeeded hq2) (cwV 1 C.ts (good_V mw_1203 mw_1205 mw_51 mw_73 mw_1206) rfl rfl rfl (by decide +kernel) ⟨Nat.le_of_ble_eq_true rfl, Nat.le_of_ble_eq_true rfl⟩) (fun H hW => CW.rv C.k hW (by decide) cw_30 rfl) rfl rfl (Nat.le_of_ble_eq_true rfl) dX11_count_139 ⟨Nat.zero_le _, Nat.zero_le _⟩ ?_
    refine j_if_eq (tgt := 148) C (by decide) dX11_count_142 (fun hc3 => ?_) (fun hc3 => ?_)
    · replace h := (if_pos hc3).symm.trans h
      refine j_iinc (v := v3 + (1 : Int32)) (L' := [(3, .int (v3 + (1 : Int32))), (0, .ref (ad 30 0)), (2, .int v2)]) C 2 rfl rfl (by decide) rfl dX11_count_148 ?_
      refine j_goto (tgt := 129) C (by decide) dX11_count_151 ?_
      exact j_sub [1, 2, 0] rfl (ih q2.1 v2 (v3 + (1 : Int32)) h)
    · replace h := (if_neg hc3).symm.trans h
      refine j_iinc (v := v2 + (1 : Int32)) (L' := [(2, .int (v2 + (1 : Int32))), (0, .ref (ad 30 0)), (3, .int v3)]) C 1 rfl rfl (by decide) rfl dX11_count_145 ?_
      refine j_iinc (v := v3 + (1 : Int32)) (L' := [(3, .int (v3 + (1 : Int32))), (2, .int (v2 + (1 : Int32))), (0, .ref (ad 30 0))]) C 2 rfl rfl (by decide) rfl dX11_count_148 ?_
      refine j_goto (tgt := 129) C (by decide) dX11_count_151 ?_
      exact j_sub [2, 1, 0] rfl (ih q2.1 (v2 + (1 : Int32)) (v3 + (1 : Int32)) h)
set_option maxRecDepth 100000 in
set_option maxHeartbeats 4000000 in
theorem t_X11_count_0 {χ : Mem} {T : Nat → Mem} (C : Cx p s m args meth c cX11_count 4 RX11 (some .int) COM g) {rr : Mem × Int32} (σ : Mem) (a1 : Int32) (h : f_X11_count_0 σ a1 = some rr) : JJ p l e rm_X11_count s m args below meth c 4 g ad (MQ below (PoI g ad χ T (rr.1) rr.2) args s 0 0 (geB g)) χ T σ 0 0 [(0, .ref (ad 30 0)), (1, .int a1)] 0 [] := by
  rw [f_X11_count_0] at h
  refine j_iload_n C 1 rfl rfl dX11_count_0 ?_
  by_cases hs1 : a1.toInt < 0 ∨ 9 < a1.toInt
  · replace h := (if_pos hs1).symm.trans h
    refine j_tableOut (tgt := 156) C hs1 (by decide) dX11_count_1 ?_
    refine j_bipush (v := -2) C (by decide) dX11_count_156 ?_
    obtain rfl := Option.some.inj h
    exact j_iret C rfl rfl (Nat.le_refl _) (Nat.le_refl _) dX11_count_158
  · replace h := (if_neg hs1).symm.trans h
    by_cases hx2 : a1 = (0 : Int32)
    · replace h := (if_pos hx2).symm.trans h
      refine j_tableIn (off := 55) (tgt := 56) C (fun q => hs1 (Or.inl q)) (fun q => hs1 (Or.inr q)) (by rw [hx2]; rfl) (by decide) dX11_count_1 ?_
      refine j_aload_n C 0 rfl rfl dX11_count_56 ?_
      refine j_getG C in_X11 (by decide) cw_30 rfl 0 (by decide) mw_1005 (fun _ h => h) rfl dX11_count_57 ?_
      obtain rfl := Option.some.inj h
      exact j_iret C rfl rfl (Nat.le_refl _) (Nat.le_refl _) dX11_count_60
    · replace h := (if_neg hx2).symm.trans h
      by_cases hx3 : a1 = (1 : Int32)
      · replace h := (if_pos hx3).symm.trans h
        refine j_tableIn (off := 60) (tgt := 61) C (fun q => hs1 (Or.inl q)) (fun q => hs1 (Or.inr q)) (by rw [hx3]; rfl) (by decide) dX11_count_1 ?_
        refine j_aload_n C 0 rfl rfl dX11_count_61 ?_
        obtain ⟨q4, hq4, h⟩ := bi_some h
        refine j_callVi (As := []) (rest := []) C (c_X11_freePins hq4) (cwV 0 C.ts (good_V mw_1141 mw_1143 mw_37 mw_73 mw_1144) rfl rfl rfl (by decide +kernel) ⟨Nat.le_of_ble_eq_true rfl, Nat.le_of_ble_eq_true rfl⟩) (fun H hW => CW.rv C.k hW (by decide) cw_30 rfl) rfl rfl (Nat.le_of_ble_eq_true rfl) dX11_count_62 ⟨Nat.zero_le _, Nat.zero_le _⟩ ?_
        obtain rfl := Option.some.inj h
        exact j_iret C rfl rfl (Nat.le_refl _) (Nat.le_refl _) dX11_count_65
      · replace h := (if_neg hx3).symm.trans h
        by_cases hx5 : a1 = (2 : Int32)
        · replace h := (if_pos hx5).symm.trans h
          refine j_tableIn (off := 65) (tgt := 66) C (fun q => hs1 (Or.inl q)) (fun q => hs1 (Or.inr q)) (by rw [hx5]; rfl) (by decide) dX11_count_1 ?_
          refine j_aload_n C 0 rfl rfl dX11_count_66 ?_
          refine j_getG C in_X11 (by decide) cw_30 rfl 1 (by decide) mw_1006 (fun _ h => h) rfl dX11_count_67 ?_
          obtain rfl := Option.some.inj h
          exact j_iret C rfl rfl (Nat.le_refl _) (Nat.le_refl _) dX11_count_70
        · replace h := (if_neg hx5).symm.trans h
          by_cases hx6 : a1 = (3 : Int32)
          · replace h := (if_pos hx6).symm.trans h
            refine j_tableIn (off := 70) (tgt := 71) C (fun q => hs1 (Or.inl q)) (fun q => hs1 (Or.inr q)) (by rw [hx6]; rfl) (by decide) dX11_count_1 ?_
            refine j_aload_n C 0 rfl rfl dX11_count_71 ?_
            obtain ⟨q7, hq7, h⟩ := bi_some h
            refine j_callVi (As := []) (rest := []) C (c_X11_inCount hq7) (cwV 0 C.ts (good_V mw_1145 mw_1147 mw_38 mw_73 mw_1148) rfl rfl rfl (by decide +kernel) ⟨Nat.le_of_ble_eq_true rfl, Nat.le_of_ble_eq_true rfl⟩) (fun H hW => CW.rv C.k hW (by decide) cw_30 rfl) rfl rfl (Nat.le_of_ble_eq_true rfl) dX11_count_72 ⟨Nat.zero_le _, Nat.zero_le _⟩ ?_
            obtain rfl := Option.some.inj h
            exact j_iret C rfl rfl (Nat.le_refl _) (Nat.le_refl _) dX11_count_75
          · replace h := (if_neg hx6).symm.trans h
            by_cases hx8 : a1 = (4 : Int32)
            · replace h := (if_pos hx8).symm.trans h
              refine j_tableIn (off := 75) (tgt := 76) C (fun q => hs1 (Or.inl q)) (fun q => hs1 (Or.inr q)) (by rw [hx8]; rfl) (by decide) dX11_count_1 ?_
              refine j_aload_n C 0 rfl rfl dX11_count_76 ?_
              obtain ⟨q9, hq9, h⟩ := bi_some h
              refine j_callVi (As := []) (rest := []) C (c_X11_motions hq9) (cwV 0 C.ts (good_V mw_1149 mw_1151 mw_39 mw_73 mw_1152) rfl rfl rfl (by decide +kernel) ⟨Nat.le_of_ble_eq_true rfl, Nat.le_of_ble_eq_true rfl⟩) (fun H hW => CW.rv C.k hW (by decide) cw_30 rfl) rfl rfl (Nat.le_of_ble_eq_true rfl) dX11_count_77 ⟨Nat.zero_le _, Nat.zero_le _⟩ ?_
              obtain rfl := Option.some.inj h
              exact j_iret C rfl rfl (Nat.le_refl _) (Nat.le_refl _) dX11_count_80
            · replace h := (if_neg hx8).symm.trans h
              by_cases hx10 : a1 = (5 : Int32)
              · replace h := (if_pos hx10).symm.trans h
                refine j_tableIn (off := 80) (tgt := 81) C (fun q => hs1 (Or.inl q)) (fun q => hs1 (Or.inr q)) (by rw [hx10]; rfl) (by decide) dX11_count_1 ?_
                refine j_aload_n C 0 rfl rfl dX11_count_81 ?_
                obtain ⟨q11, hq11, h⟩ := bi_some h
                refine j_callVi (As := []) (rest := []) C (c_X11_stresses hq11) (cwV 0 C.ts (good_V mw_1176 mw_1178 mw_45 mw_73 mw_1179) rfl rfl rfl (by decide +kernel) ⟨Nat.le_of_ble_eq_true rfl, Nat.le_of_ble_eq_true rfl⟩) (fun H hW => CW.rv C.k hW (by decide) cw_30 rfl) rfl rfl (Nat.le_of_ble_eq_true rfl) dX11_count_82 ⟨Nat.zero_le _, Nat.zero_le _⟩ ?_
                obtain rfl := Option.some.inj h
                exact j_iret C rfl rfl (Nat.le_refl _) (Nat.le_refl _) dX11_count_85
              · replace h := (if_neg hx10).symm.trans h
                by_cases hx12 : a1 = (6 : Int32)
                · replace h := (if_pos hx12).symm.trans h
                  refine j_tableIn (off := 85) (tgt := 86) C (fun q => hs1 (Or.inl q)) (fun q => hs1 (Or.inr q)) (by rw [hx12]; rfl) (by decide) dX11_count_1 ?_
                  refine j_iconst (v := 2) C (by decide) dX11_count_86 ?_
                  refine j_aload_n C 0 rfl rfl dX11_count_87 ?_
                  obtain ⟨q13, hq13, h⟩ := bi_some h
                  refine j_callVi (As := []) (rest := [.int (2 : Int32)]) C (c_X11_freePins hq13) (cwV 0 C.ts (good_V mw_1141 mw_1143 mw_37 mw_73 mw_1144) rfl rfl rfl (by decide +kernel) ⟨Nat.le_of_ble_eq_true rfl, Nat.le_of_ble_eq_true rfl⟩) (fun H hW => CW.rv C.k hW (by decide) cw_30 rfl) rfl rfl (Nat.le_of_ble_eq_true rfl) dX11_count_88 ⟨Nat.zero_le _, Nat.zero_le _⟩ ?_
                  refine j_imul C dX11_count_91 ?_
                  refine j_aload_n C 0 rfl rfl dX11_count_92 ?_
                  obtain ⟨q14, hq14, h⟩ := bi_some h
                  refine j_callVi (As := []) (rest := [.int ((2 : Int32) * q13)]) C (c_X11_motions hq14) (cwV 0 C.ts (good_V mw_1149 mw_1151 mw_39 mw_73 mw_1152) rfl rfl rfl (by decide +kernel) ⟨Nat.le_of_ble_eq_true rfl, Nat.le_of_ble_eq_true rfl⟩) (fun H hW => CW.rv C.k hW (by decide) cw_30 rfl) rfl rfl (Nat.le_of_ble_eq_true rfl) dX11_count_93 ⟨Nat.zero_le _, Nat.zero_le _⟩ ?_
                  refine j_isub C dX11_count_96 ?_
                  obtain rfl := Option.some.inj h
                  exact j_iret C rfl rfl (Nat.le_refl _) (Nat.le_refl _) dX11_count_97
                · replace h := (if_neg hx12).symm.trans h
                  by_cases hx15 : a1 = (7 : Int32)
                  · replace h := (if_pos hx15).symm.trans h
                    refine j_tableIn (off := 97) (tgt := 98) C (fun q => hs1 (Or.inl q)) (fun q => hs1 (Or.inr q)) (by rw [hx15]; rfl) (by decide) dX11_count_1 ?_
                    refine j_aload_n C 0 rfl rfl dX11_count_98 ?_
                    obtain ⟨q16, hq16, h⟩ := bi_some h
                    refine j_callVv (As := []) (rest := []) C (c_X11_findBodies hq16) (cwV 0 C.ts (good_V mw_1180 mw_1182 mw_46 mw_73 mw_1183) rfl rfl rfl (by decide +kernel) ⟨Nat.le_of_ble_eq_true rfl, Nat.le_of_ble_eq_true rfl⟩) (fun H hW => CW.rv C.k hW (by decide) cw_30 rfl) rfl rfl (Nat.le_of_ble_eq_true rfl) dX11_count_99 ⟨Nat.zero_le _, Nat.zero_le _⟩ ?_
                    refine j_aload_n C 0 rfl rfl dX11_count_102 ?_
                    refine j_getG C in_X11 (by decide) cw_30 rfl 18 (by decide) mw_1023 (fun _ h => h) rfl dX11_count_103 ?_
                    obtain rfl := Option.some.inj h
                    exact j_iret C rfl rfl (Nat.le_refl _) (Nat.le_refl _) dX11_count_106
                  · replace h := (if_neg hx15).symm.trans h
                    by_cases hx17 : a1 = (8 : Int32)
                    · replace h := (if_pos hx17).symm.trans h
                      refine j_tableIn (off := 106) (tgt := 107) C (fun q => hs1 (Or.inl q)) (fun q => hs1 (Or.inr q)) (by rw [hx17]; rfl) (by decide) dX11_count_1 ?_
                      refine j_aload_n C 0 rfl rfl dX11_count_107 ?_
                      obtain ⟨q18, hq18, h⟩ := bi_some h
                      refine j_callVi (As := []) (rest := []) C (c_X11_inCount hq18) (cwV 0 C.ts (good_V mw_1145 mw_1147 mw_38 mw_73 mw_1148) rfl rfl rfl (by decide +kernel) ⟨Nat.le_of_ble_eq_true rfl, Nat.le_of_ble_eq_true rfl⟩) (fun H hW => CW.rv C.k hW (by decide) cw_30 rfl) rfl rfl (Nat.le_of_ble_eq_true rfl) dX11_count_108 ⟨Nat.zero_le _, Nat.zero_le _⟩ ?_
                      refine j_aload_n C 0 rfl rfl dX11_count_111 ?_
                      refine j_iconst (v := 1) C (by decide) dX11_count_112 ?_
                      refine j_aload_n C 0 rfl rfl dX11_count_113 ?_
                      refine j_getG C in_X11 (by decide) cw_30 rfl 0 (by decide) mw_1005 (fun _ h => h) rfl dX11_count_114 ?_
                      refine j_ishl C dX11_count_117 ?_
                      refine j_iconst (v := 1) C (by decide) dX11_count_118 ?_
                      refine j_isub C dX11_count_119 ?_
                      obtain ⟨q19, hq19, h⟩ := bi_some h
                      refine j_callVi (As := [.int (((1 : Int32) <<< ((gI σ 0 0) &&& 31)) - (1 : Int32))]) (rest := [.int q18]) C (c_X11_even hq19) (cwV 1 C.ts (good_V mw_1187 mw_1189 mw_47 mw_73 mw_1190) rfl rfl rfl (by decide +kernel) ⟨Nat.le_of_ble_eq_true rfl, Nat.le_of_ble_eq_true rfl⟩) (fun H hW => CW.rv C.k hW (by decide) cw_30 rfl) rfl rfl (Nat.le_of_ble_eq_true rfl) dX11_count_120 ⟨Nat.zero_le _, Nat.zero_le _⟩ ?_
                      refine j_isub C dX11_count_123 ?_
                      obtain rfl := Option.some.inj h
                      exact j_iret C rfl rfl (Nat.le_refl _) (Nat.le_refl _) dX11_count_124
                    · replace h := (if_neg hx17).symm.trans h
                      by_cases hx20 : a1 = (9 : Int32)
                      · replace h := (if_pos hx20).symm.trans h
                        refine j_tableIn (off := 124) (tgt := 125) C (fun q => hs1 (Or.inl q)) (fun q => hs1 (Or.inr q)) (by rw [hx20]; rfl) (by decide) dX11_count_1 ?_
                        refine j_iconst (v := 0) C (by decide) dX11_count_125 ?_
                        refine j_istore_n (L' := [(2, .int (0 : Int32)), (0, .ref (ad 30 0)), (1, .int a1)]) C rfl (by decide) rfl dX11_count_126 ?_
                        refine j_iconst (v := 0) C (by decide) dX11_count_127 ?_
                        refine j_istore_n (L' := [(3, .int (0 : Int32)), (2, .int (0 : Int32)), (0, .ref (ad 30 0)), (1, .int a1)]) C rfl (by decide) rfl dX11_count_128 ?_
                        exact j_sub [2, 1, 0] rfl (t_X11_count_129 C FU σ (0 : Int32) (0 : Int32) h)
                      · replace h := (if_neg hx20).symm.trans h
                        cases h
set_option maxRecDepth 100000 in
set_option maxHeartbeats 4000000 in
theorem c_X11_count {l : Launch} {g : Gc} {ad : Nat → Nat → Nat} {χ : Mem} {T : Nat → Mem} {σ : Mem} {a1 : Int32} {rr : Mem × Int32} (h : f_X11_count σ a1 = some rr) : Met l yX11_count (WS yX11_count cX11_count 4 (some .int)) rm_X11_count (PreW g ad χ T σ [.ref (ad 30 0), .int a1]) (PoI g ad χ T (rr.1) rr.2) 0 0 (geB g) := by
  refine j_metW (by decide) (Nat.le_of_ble_eq_true rfl) fun p e s m below meth c C hname => ?_
  rw [f_X11_count] at h
  exact j_sub [0, 1] rfl (t_X11_count_0 C σ a1 h)
set_option maxRecDepth 100000 in
set_option maxHeartbeats 4000000 in
theorem t_X11_pinTold_86 {χ : Mem} {T : Nat → Mem} {σ : Mem} (C : Cx p s m args meth c cX11_pinTold 5 RX11 (some .int) COM g) {rr : Int32} : ∀ (n : Nat) (v1 : Int32) (v3 : Int32) (v4 : Int32) (h : f_X11_pinTold_86 σ n v1 v3 v4 = some rr), JJ p l e rm_X11_pinTold s m args below meth c 5 g ad (MQ below (PoI g ad χ T σ rr) args s 0 0 (geB g)) χ T σ 0 0 [(0, .ref (ad 30 0)), (1, .int v1), (3, .int v3), (4, .int v4)] 86 [] := by
  intro n
  induction n with
  | zero => intro  v1 v3 v4  h; cases h
  | succ n ih =>
  intro  v1 v3 v4  h
  rw [f_X11_pinTold_86] at h
  refine j_iload C 3 rfl dX11_pinTold_86 ?_
  refine j_aload_n C 0 rfl rfl dX11_pinTold_88 ?_
  refine j_getG C in_X11 (by decide) cw_30 rfl 1 (by decide) mw_1006 (fun _ h => h) rfl dX11_pinTold_89 ?_
  refine j_icmp_ge (tgt := 136) C (by decide) dX11_pinTold_92 (fun hc1 => ?_) (fun hc1 => ?_)
  · replace h := (if_pos hc1).symm.trans h
    refine j_iload_n C 2 rfl rfl dX11_pinTold_136 ?_
    obtain rfl := Option.some.inj h
    exact j_iret C rfl rfl (Nat.le_refl _) (Nat.le_refl _) dX11_pinTold_137
  · replace h := (if_neg hc1).symm.trans h
    refine j_aload_n C 0 rfl rfl dX11_pinTold_95 ?_
    refine j_getG C in_X11 (by decide) cw_30 rfl 11 (by decide) mw_1016 (fun _ h => h) rfl dX11_pinTold_96 ?_
    refine j_iload C 3 rfl dX11_pinTold_99 ?_
    obtain ⟨hg2, h⟩ := gd_some h
    refine j_zald C (by decide) cw_31_11 hg2 dX11_pinTold_101 ?_
    refine j_if_eq (tgt := 130) C (by decide) dX11_pinTold_102 (fun hc3 => ?_) (fun hc3 => ?_)
    · replace h := (if_pos hc3).symm.trans h
      refine j_iinc (v := v4 + (1 : Int32)) (L' := [(4, .int (v4 + (1 : Int32))), (0, .ref (ad 30 0)), (1, .int v1), (3, .int v3)]) C 3 rfl rfl (by decide) rfl dX11_pinTold_130 ?_
      refine j_goto (tgt := 86) C (by decide) dX11_pinTold_133 ?_
      exact j_sub [1, 2, 3, 0] rfl (ih v1 v3 (v4 + (1 : Int32)) h)
    · replace h := (if_neg hc3).symm.trans h
      refine j_aload_n C 0 rfl rfl dX11_pinTold_105 ?_
      refine j_getG C in_X11 (by decide) cw_30 rfl 8 (by decide) mw_1013 (fun _ h => h) rfl dX11_pinTold_106 ?_
      refine j_iload C 3 rfl dX11_pinTold_109 ?_
      refine j_iald C (by decide) cw_31_8 hg2 dX11_pinTold_111 ?_
      refine j_iload_n C 1 rfl rfl dX11_pinTold_112 ?_
      refine j_icmp_eq (tgt := 127) C (by decide) dX11_pinTold_113 (fun hc4 => ?_) (fun hc4 => ?_)
      · replace h := (if_pos hc4).symm.trans h
        refine j_iinc (v := v3 + (1 : Int32)) (L' := [(3, .int (v3 + (1 : Int32))), (0, .ref (ad 30 0)), (1, .int v1), (4, .int v4)]) C 2 rfl rfl (by decide) rfl dX11_pinTold_127 ?_
        refine j_iinc (v := v4 + (1 : Int32)) (L' := [(4, .int (v4 + (1 : Int32))), (3, .int (v3 + (1 : Int32))), (0, .ref (ad 30 0)), (1, .int v1)]) C 3 rfl rfl (by decide) rfl dX11_pinTold_130 ?_
        refine j_goto (tgt := 86) C (by decide) dX11_pinTold_133 ?_
        exact j_sub [2, 3, 1, 0] rfl (ih v1 (v3 + (1 : Int32)) (v4 + (1 : Int32)) h)
      · replace h := (if_neg hc4).symm.trans h
        refine j_aload_n C 0 rfl rfl dX11_pinTold_116 ?_
        refine j_getG C in_X11 (by decide) cw_30 rfl 9 (by decide) mw_1014 (fun _ h => h) rfl dX11_pinTold_117 ?_
        refine j_iload C 3 rfl dX11_pinTold_120 ?_
        refine j_iald C (by decide) cw_31_9 hg2 dX11_pinTold_122 ?_
        refine j_iload_n C 1 rfl rfl dX11_pinTold_123 ?_
        refine j_icmp_ne (tgt := 130) C (by decide) dX11_pinTold_124 (fun hc5 => ?_) (fun hc5 => ?_)
        · replace h := (if_neg hc5).symm.trans h
          refine j_iinc (v := v4 + (1 : Int32)) (L' := [(4, .int (v4 + (1 : Int32))), (0, .ref (ad 30 0)), (1, .int v1), (3, .int v3)]) C 3 rfl rfl (by decide) rfl dX11_pinTold_130 ?_
          refine j_goto (tgt := 86) C (by decide) dX11_pinTold_133 ?_
          exact j_sub [1, 2, 3, 0] rfl (ih v1 v3 (v4 + (1 : Int32)) h)
        · replace h := (if_pos hc5).symm.trans h
          refine j_iinc (v := v3 + (1 : Int32)) (L' := [(3, .int (v3 + (1 : Int32))), (0, .ref (ad 30 0)), (1, .int v1), (4, .int v4)]) C 2 rfl rfl (by decide) rfl dX11_pinTold_127 ?_
          refine j_iinc (v := v4 + (1 : Int32)) (L' := [(4, .int (v4 + (1 : Int32))), (3, .int (v3 + (1 : Int32))), (0, .ref (ad 30 0)), (1, .int v1)]) C 3 rfl rfl (by decide) rfl dX11_pinTold_130 ?_
          refine j_goto (tgt := 86) C (by decide) dX11_pinTold_133 ?_
          exact j_sub [2, 3, 1, 0] rfl (ih v1 (v3 + (1 : Int32)) (v4 + (1 : Int32)) h)
set_option maxRecDepth 100000 in
set_option maxHeartbeats 4000000 in
theorem t_X11_pinTold_0 {χ : Mem} {T : Nat → Mem} {σ : Mem} (C : Cx p s m args meth c cX11_pinTold 5 RX11 (some .int) COM g) {rr : Int32} (a1 : Int32) (a2 : Int32) (h : f_X11_pinTold_0 σ a1 a2 = some rr) : JJ p l e rm_X11_pinTold s m args below meth c 5 g ad (MQ below (PoI g ad χ T σ rr) args s 0 0 (geB g)) χ T σ 0 0 [(0, .ref (ad 30 0)), (1, .int a1), (2, .int a2)] 0 [] := by
  rw [f_X11_pinTold_0] at h
  refine j_aload_n C 0 rfl rfl dX11_pinTold_0 ?_
  refine j_iload_n C 1 rfl rfl dX11_pinTold_1 ?_
  obtain ⟨q1, hq1, h⟩ := bi_some h
  refine j_callVi (As := [.int a1]) (rest := []) C (c_X11_isPin hq1) (cwV 1 C.ts (good_V mw_1117 mw_1119 mw_35 mw_73 mw_1120) rfl rfl rfl (by decide +kernel) ⟨Nat.le_of_ble_eq_true rfl, Nat.le_of_ble_eq_true rfl⟩) (fun H hW => CW.rv C.k hW (by decide) cw_30 rfl) rfl rfl (Nat.le_of_ble_eq_true rfl) dX11_pinTold_2 ⟨Nat.zero_le _, Nat.zero_le _⟩ ?_
  refine j_if_ne (tgt := 11) C (by decide) dX11_pinTold_5 (fun hc2 => ?_) (fun hc2 => ?_)
  · replace h := (if_neg hc2).symm.trans h
    refine j_iload_n C 2 rfl rfl dX11_pinTold_11 ?_
    by_cases hs3 : a2.toInt < 0 ∨ 5 < a2.toInt
    · replace h := (if_pos hs3).symm.trans h
      refine j_tableOut (tgt := 152) C hs3 (by decide) dX11_pinTold_12 ?_
      refine j_bipush (v := -2) C (by decide) dX11_pinTold_152 ?_
      obtain rfl := Option.some.inj h
      exact j_iret C rfl rfl (Nat.le_refl _) (Nat.le_refl _) dX11_pinTold_154
    · replace h := (if_neg hs3).symm.trans h
      by_cases hx4 : a2 = (0 : Int32)
      · replace h := (if_pos hx4).symm.trans h
        refine j_tableIn (off := 40) (tgt := 52) C (fun q => hs3 (Or.inl q)) (fun q => hs3 (Or.inr q)) (by rw [hx4]; rfl) (by decide) dX11_pinTold_12 ?_
        refine j_aload_n C 0 rfl rfl dX11_pinTold_52 ?_
        refine j_getG C in_X11 (by decide) cw_30 rfl 2 (by decide) mw_1007 (fun _ h => h) rfl dX11_pinTold_53 ?_
        refine j_iload_n C 1 rfl rfl dX11_pinTold_56 ?_
        obtain ⟨hg5, h⟩ := gd_some h
        refine j_iald C (by decide) cw_31_2 hg5 dX11_pinTold_57 ?_
        obtain rfl := Option.some.inj h
        exact j_iret C rfl rfl (Nat.le_refl _) (Nat.le_refl _) dX11_pinTold_58
      · replace h := (if_neg hx4).symm.trans h
        by_cases hx6 : a2 = (1 : Int32)
        · replace h := (if_pos hx6).symm.trans h
          refine j_tableIn (off := 47) (tgt := 59) C (fun q => hs3 (Or.inl q)) (fun q => hs3 (Or.inr q)) (by rw [hx6]; rfl) (by decide) dX11_pinTold_12 ?_
          refine j_aload_n C 0 rfl rfl dX11_pinTold_59 ?_
          refine j_getG C in_X11 (by decide) cw_30 rfl 3 (by decide) mw_1008 (fun _ h => h) rfl dX11_pinTold_60 ?_
          refine j_iload_n C 1 rfl rfl dX11_pinTold_63 ?_
          obtain ⟨hg7, h⟩ := gd_some h
          refine j_iald C (by decide) cw_31_3 hg7 dX11_pinTold_64 ?_
          obtain rfl := Option.some.inj h
          exact j_iret C rfl rfl (Nat.le_refl _) (Nat.le_refl _) dX11_pinTold_65
        · replace h := (if_neg hx6).symm.trans h
          by_cases hx8 : a2 = (2 : Int32)
          · replace h := (if_pos hx8).symm.trans h
            refine j_tableIn (off := 54) (tgt := 66) C (fun q => hs3 (Or.inl q)) (fun q => hs3 (Or.inr q)) (by rw [hx8]; rfl) (by decide) dX11_pinTold_12 ?_
            refine j_aload_n C 0 rfl rfl dX11_pinTold_66 ?_
            refine j_getG C in_X11 (by decide) cw_30 rfl 6 (by decide) mw_1011 (fun _ h => h) rfl dX11_pinTold_67 ?_
            refine j_iload_n C 1 rfl rfl dX11_pinTold_70 ?_
            obtain ⟨hg9, h⟩ := gd_some h
            refine j_zald C (by decide) cw_31_6 hg9 dX11_pinTold_71 ?_
            refine j_if_eq (tgt := 79) C (by decide) dX11_pinTold_72 (fun hc10 => ?_) (fun hc10 => ?_)
            · replace h := (if_pos hc10).symm.trans h
              refine j_iconst (v := 0) C (by decide) dX11_pinTold_79 ?_
              obtain rfl := Option.some.inj h
              exact j_iret C rfl rfl (Nat.le_refl _) (Nat.le_refl _) dX11_pinTold_80
            · replace h := (if_neg hc10).symm.trans h
              refine j_iconst (v := 1) C (by decide) dX11_pinTold_75 ?_
              refine j_goto (tgt := 80) C (by decide) dX11_pinTold_76 ?_
              obtain rfl := Option.some.inj h
              exact j_iret C rfl rfl (Nat.le_refl _) (Nat.le_refl _) dX11_pinTold_80
          · replace h := (if_neg hx8).symm.trans h
            by_cases hx11 : a2 = (3 : Int32)
            · replace h := (if_pos hx11).symm.trans h
              refine j_tableIn (off := 69) (tgt := 81) C (fun q => hs3 (Or.inl q)) (fun q => hs3 (Or.inr q)) (by rw [hx11]; rfl) (by decide) dX11_pinTold_12 ?_
              refine j_iconst (v := 0) C (by decide) dX11_pinTold_81 ?_
              refine j_istore_n (L' := [(3, .int (0 : Int32)), (0, .ref (ad 30 0)), (1, .int a1), (2, .int a2)]) C rfl (by decide) rfl dX11_pinTold_82 ?_
              refine j_iconst (v := 0) C (by decide) dX11_pinTold_83 ?_
              refine j_istore (L' := [(4, .int (0 : Int32)), (3, .int (0 : Int32)), (0, .ref (ad 30 0)), (1, .int a1), (2, .int a2)]) C (by decide) rfl dX11_pinTold_84 ?_
              exact j_sub [2, 3, 1, 0] rfl (t_X11_pinTold_86 C FU a1 (0 : Int32) (0 : Int32) h)
            · replace h := (if_neg hx11).symm.trans h
              by_cases hx12 : a2 = (4 : Int32)
              · replace h := (if_pos hx12).symm.trans h
                refine j_tableIn (off := 126) (tgt := 138) C (fun q => hs3 (Or.inl q)) (fun q => hs3 (Or.inr q)) (by rw [hx12]; rfl) (by decide) dX11_pinTold_12 ?_
                refine j_aload_n C 0 rfl rfl dX11_pinTold_138 ?_
                refine j_getG C in_X11 (by decide) cw_30 rfl 4 (by decide) mw_1009 (fun _ h => h) rfl dX11_pinTold_139 ?_
                refine j_iload_n C 1 rfl rfl dX11_pinTold_142 ?_
                obtain ⟨hg13, h⟩ := gd_some h
                refine j_iald C (by decide) cw_31_4 hg13 dX11_pinTold_143 ?_
                obtain rfl := Option.some.inj h
                exact j_iret C rfl rfl (Nat.le_refl _) (Nat.le_refl _) dX11_pinTold_144
              · replace h := (if_neg hx12).symm.trans h
                by_cases hx14 : a2 = (5 : Int32)
                · replace h := (if_pos hx14).symm.trans h
                  refine j_tableIn (off := 133) (tgt := 145) C (fun q => hs3 (Or.inl q)) (fun q => hs3 (Or.inr q)) (by rw [hx14]; rfl) (by decide) dX11_pinTold_12 ?_
                  refine j_aload_n C 0 rfl rfl dX11_pinTold_145 ?_
                  refine j_getG C in_X11 (by decide) cw_30 rfl 5 (by decide) mw_1010 (fun _ h => h) rfl dX11_pinTold_146 ?_
                  refine j_iload_n C 1 rfl rfl dX11_pinTold_149 ?_
                  obtain ⟨hg15, h⟩ := gd_some h
                  refine j_iald C (by decide) cw_31_5 hg15 dX11_pinTold_150 ?_
                  obtain rfl := Option.some.inj h
                  exact j_iret C rfl rfl (Nat.le_refl _) (Nat.le_refl _) dX11_pinTold_151
                · replace h := (if_neg hx14).symm.trans h
                  cases h
  · replace h := (if_pos hc2).symm.trans h
    refine j_bipush (v := -2) C (by decide) dX11_pinTold_8 ?_
    obtain rfl := Option.some.inj h
    exact j_iret C rfl rfl (Nat.le_refl _) (Nat.le_refl _) dX11_pinTold_10
set_option maxRecDepth 100000 in
set_option maxHeartbeats 4000000 in
theorem c_X11_pinTold {l : Launch} {g : Gc} {ad : Nat → Nat → Nat} {χ : Mem} {T : Nat → Mem} {σ : Mem} {a1 : Int32} {a2 : Int32} {rr : Int32} (h : f_X11_pinTold σ a1 a2 = some rr) : Met l yX11_pinTold (WS yX11_pinTold cX11_pinTold 5 (some .int)) rm_X11_pinTold (PreW g ad χ T σ [.ref (ad 30 0), .int a1, .int a2]) (PoI g ad χ T σ rr) 0 0 (geB g) := by
  refine j_metW (by decide) (Nat.le_of_ble_eq_true rfl) fun p e s m below meth c C hname => ?_
  rw [f_X11_pinTold] at h
  exact j_sub [0, 1, 2] rfl (t_X11_pinTold_0 C a1 a2 h)
set_option maxRecDepth 100000 in
set_option maxHeartbeats 4000000 in
theorem t_X11_rodTold_119 {χ : Mem} {T : Nat → Mem} (C : Cx p s m args meth c cX11_rodTold 4 RX11 (some .int) COM g) {rr : Mem × Int32} : ∀ (n : Nat) (σ : Mem) (v1 : Int32) (v3 : Int32) (h : f_X11_rodTold_119 n σ v1 v3 = some rr), JJ p l e rm_X11_rodTold s m args below meth c 4 g ad (MQ below (PoI g ad χ T (rr.1) rr.2) args s 0 0 (geB g)) χ T σ 0 0 [(0, .ref (ad 30 0)), (1, .int v1), (3, .int v3)] 119 [] := by
  intro n
  induction n with
  | zero => intro  σ v1 v3  h; cases h
  | succ n ih =>
  intro  σ v1 v3  h
  rw [f_X11_rodTold_119] at h
  refine j_iload_n C 2 rfl rfl dX11_rodTold_119 ?_
  refine j_aload_n C 0 rfl rfl dX11_rodTold_120 ?_
  refine j_getG C in_X11 (by decide) cw_30 rfl 18 (by decide) mw_1023 (fun _ h => h) rfl dX11_rodTold_121 ?_
  refine j_icmp_ge (tgt := 149) C (by decide) dX11_rodTold_124 (fun hc1 => ?_) (fun hc1 => ?_)
  · replace h := (if_pos hc1).symm.trans h
    refine j_iconst (v := -1) C (by decide) dX11_rodTold_149 ?_
    obtain rfl := Option.some.inj h
    exact j_iret C rfl rfl (Nat.le_refl _) (Nat.le_refl _) dX11_rodTold_150
  · replace h := (if_neg hc1).symm.trans h
    refine j_aload_n C 0 rfl rfl dX11_rodTold_127 ?_
    refine j_iload_n C 1 rfl rfl dX11_rodTold_128 ?_
    refine j_aload_n C 0 rfl rfl dX11_rodTold_129 ?_
    refine j_getG C in_X11 (by decide) cw_30 rfl 19 (by decide) mw_1024 (fun _ h => h) rfl dX11_rodTold_130 ?_
    refine j_iload_n C 2 rfl rfl dX11_rodTold_133 ?_
    obtain ⟨hg2, h⟩ := gd_some h
    refine j_iald C (by decide) cw_31_19 hg2 dX11_rodTold_134 ?_
    obtain ⟨q3, hq3, h⟩ := bi_some h
    refine j_callVi (As := [.int v1, .int (gI σ 19 v3.toNatClampNeg)]) (rest := []) C (c_X11_isBetween hq3) (cwV 2 C.ts (good_V mw_1191 mw_1193 mw_48 mw_73 mw_1194) rfl rfl rfl (by decide +kernel) ⟨Nat.le_of_ble_eq_true rfl, Nat.le_of_ble_eq_true rfl⟩) (fun H hW => CW.rv C.k hW (by decide) cw_30 rfl) rfl rfl (Nat.le_of_ble_eq_true rfl) dX11_rodTold_135 ⟨Nat.zero_le _, Nat.zero_le _⟩ ?_
    refine j_if_eq (tgt := 143) C (by decide) dX11_rodTold_138 (fun hc4 => ?_) (fun hc4 => ?_)
    · replace h := (if_pos hc4).symm.trans h
      refine j_iinc (v := v3 + (1 : Int32)) (L' := [(3, .int (v3 + (1 : Int32))), (0, .ref (ad 30 0)), (1, .int v1)]) C 2 rfl rfl (by decide) rfl dX11_rodTold_143 ?_
      refine j_goto (tgt := 119) C (by decide) dX11_rodTold_146 ?_
      exact j_sub [1, 2, 0] rfl (ih σ v1 (v3 + (1 : Int32)) h)
    · replace h := (if_neg hc4).symm.trans h
      refine j_iload_n C 2 rfl rfl dX11_rodTold_141 ?_
      obtain rfl := Option.some.inj h
      exact j_iret C rfl rfl (Nat.le_refl _) (Nat.le_refl _) dX11_rodTold_142
set_option maxRecDepth 100000 in
set_option maxHeartbeats 4000000 in
theorem t_X11_rodTold_0 {χ : Mem} {T : Nat → Mem} (C : Cx p s m args meth c cX11_rodTold 4 RX11 (some .int) COM g) {rr : Mem × Int32} (σ : Mem) (a1 : Int32) (a2 : Int32) (h : f_X11_rodTold_0 σ a1 a2 = some rr) : JJ p l e rm_X11_rodTold s m args below meth c 4 g ad (MQ below (PoI g ad χ T (rr.1) rr.2) args s 0 0 (geB g)) χ T σ 0 0 [(0, .ref (ad 30 0)), (1, .int a1), (2, .int a2)] 0 [] := by
  rw [f_X11_rodTold_0] at h
  refine j_aload_n C 0 rfl rfl dX11_rodTold_0 ?_
  refine j_iload_n C 1 rfl rfl dX11_rodTold_1 ?_
  obtain ⟨q1, hq1, h⟩ := bi_some h
  refine j_callVi (As := [.int a1]) (rest := []) C (c_X11_isRod hq1) (cwV 1 C.ts (good_V mw_1133 mw_1135 mw_36 mw_73 mw_1136) rfl rfl rfl (by decide +kernel) ⟨Nat.le_of_ble_eq_true rfl, Nat.le_of_ble_eq_true rfl⟩) (fun H hW => CW.rv C.k hW (by decide) cw_30 rfl) rfl rfl (Nat.le_of_ble_eq_true rfl) dX11_rodTold_2 ⟨Nat.zero_le _, Nat.zero_le _⟩ ?_
  refine j_if_ne (tgt := 11) C (by decide) dX11_rodTold_5 (fun hc2 => ?_) (fun hc2 => ?_)
  · replace h := (if_neg hc2).symm.trans h
    refine j_iload_n C 2 rfl rfl dX11_rodTold_11 ?_
    by_cases hs3 : a2.toInt < 0 ∨ 6 < a2.toInt
    · replace h := (if_pos hs3).symm.trans h
      refine j_tableOut (tgt := 151) C hs3 (by decide) dX11_rodTold_12 ?_
      refine j_bipush (v := -2) C (by decide) dX11_rodTold_151 ?_
      obtain rfl := Option.some.inj h
      exact j_iret C rfl rfl (Nat.le_refl _) (Nat.le_refl _) dX11_rodTold_153
    · replace h := (if_neg hs3).symm.trans h
      by_cases hx4 : a2 = (0 : Int32)
      · replace h := (if_pos hx4).symm.trans h
        refine j_tableIn (off := 44) (tgt := 56) C (fun q => hs3 (Or.inl q)) (fun q => hs3 (Or.inr q)) (by rw [hx4]; rfl) (by decide) dX11_rodTold_12 ?_
        refine j_aload_n C 0 rfl rfl dX11_rodTold_56 ?_
        refine j_getG C in_X11 (by decide) cw_30 rfl 7 (by decide) mw_1012 (fun _ h => h) rfl dX11_rodTold_57 ?_
        refine j_iload_n C 1 rfl rfl dX11_rodTold_60 ?_
        obtain ⟨hg5, h⟩ := gd_some h
        refine j_iald C (by decide) cw_31_7 hg5 dX11_rodTold_61 ?_
        obtain rfl := Option.some.inj h
        exact j_iret C rfl rfl (Nat.le_refl _) (Nat.le_refl _) dX11_rodTold_62
      · replace h := (if_neg hx4).symm.trans h
        by_cases hx6 : a2 = (1 : Int32)
        · replace h := (if_pos hx6).symm.trans h
          refine j_tableIn (off := 51) (tgt := 63) C (fun q => hs3 (Or.inl q)) (fun q => hs3 (Or.inr q)) (by rw [hx6]; rfl) (by decide) dX11_rodTold_12 ?_
          refine j_aload_n C 0 rfl rfl dX11_rodTold_63 ?_
          refine j_getG C in_X11 (by decide) cw_30 rfl 8 (by decide) mw_1013 (fun _ h => h) rfl dX11_rodTold_64 ?_
          refine j_iload_n C 1 rfl rfl dX11_rodTold_67 ?_
          obtain ⟨hg7, h⟩ := gd_some h
          refine j_iald C (by decide) cw_31_8 hg7 dX11_rodTold_68 ?_
          obtain rfl := Option.some.inj h
          exact j_iret C rfl rfl (Nat.le_refl _) (Nat.le_refl _) dX11_rodTold_69
        · replace h := (if_neg hx6).symm.trans h
          by_cases hx8 : a2 = (2 : Int32)
          · replace h := (if_pos hx8).symm.trans h
            refine j_tableIn (off := 58) (tgt := 70) C (fun q => hs3 (Or.inl q)) (fun q => hs3 (Or.inr q)) (by rw [hx8]; rfl) (by decide) dX11_rodTold_12 ?_
            refine j_aload_n C 0 rfl rfl dX11_rodTold_70 ?_
            refine j_getG C in_X11 (by decide) cw_30 rfl 9 (by decide) mw_1014 (fun _ h => h) rfl dX11_rodTold_71 ?_
            refine j_iload_n C 1 rfl rfl dX11_rodTold_74 ?_
            obtain ⟨hg9, h⟩ := gd_some h
            refine j_iald C (by decide) cw_31_9 hg9 dX11_rodTold_75 ?_
            obtain rfl := Option.some.inj h
            exact j_iret C rfl rfl (Nat.le_refl _) (Nat.le_refl _) dX11_rodTold_76
          · replace h := (if_neg hx8).symm.trans h
            by_cases hx10 : a2 = (3 : Int32)
            · replace h := (if_pos hx10).symm.trans h
              refine j_tableIn (off := 65) (tgt := 77) C (fun q => hs3 (Or.inl q)) (fun q => hs3 (Or.inr q)) (by rw [hx10]; rfl) (by decide) dX11_rodTold_12 ?_
              refine j_aload_n C 0 rfl rfl dX11_rodTold_77 ?_
              refine j_getG C in_X11 (by decide) cw_30 rfl 10 (by decide) mw_1015 (fun _ h => h) rfl dX11_rodTold_78 ?_
              refine j_iload_n C 1 rfl rfl dX11_rodTold_81 ?_
              obtain ⟨hg11, h⟩ := gd_some h
              refine j_iald C (by decide) cw_31_10 hg11 dX11_rodTold_82 ?_
              obtain rfl := Option.some.inj h
              exact j_iret C rfl rfl (Nat.le_refl _) (Nat.le_refl _) dX11_rodTold_83
            · replace h := (if_neg hx10).symm.trans h
              by_cases hx12 : a2 = (4 : Int32)
              · replace h := (if_pos hx12).symm.trans h
                refine j_tableIn (off := 72) (tgt := 84) C (fun q => hs3 (Or.inl q)) (fun q => hs3 (Or.inr q)) (by rw [hx12]; rfl) (by decide) dX11_rodTold_12 ?_
                refine j_aload_n C 0 rfl rfl dX11_rodTold_84 ?_
                refine j_getG C in_X11 (by decide) cw_30 rfl 11 (by decide) mw_1016 (fun _ h => h) rfl dX11_rodTold_85 ?_
                refine j_iload_n C 1 rfl rfl dX11_rodTold_88 ?_
                obtain ⟨hg13, h⟩ := gd_some h
                refine j_zald C (by decide) cw_31_11 hg13 dX11_rodTold_89 ?_
                refine j_if_eq (tgt := 97) C (by decide) dX11_rodTold_90 (fun hc14 => ?_) (fun hc14 => ?_)
                · replace h := (if_pos hc14).symm.trans h
                  refine j_iconst (v := 0) C (by decide) dX11_rodTold_97 ?_
                  obtain rfl := Option.some.inj h
                  exact j_iret C rfl rfl (Nat.le_refl _) (Nat.le_refl _) dX11_rodTold_98
                · replace h := (if_neg hc14).symm.trans h
                  refine j_iconst (v := 1) C (by decide) dX11_rodTold_93 ?_
                  refine j_goto (tgt := 98) C (by decide) dX11_rodTold_94 ?_
                  obtain rfl := Option.some.inj h
                  exact j_iret C rfl rfl (Nat.le_refl _) (Nat.le_refl _) dX11_rodTold_98
              · replace h := (if_neg hx12).symm.trans h
                by_cases hx15 : a2 = (5 : Int32)
                · replace h := (if_pos hx15).symm.trans h
                  refine j_tableIn (off := 87) (tgt := 99) C (fun q => hs3 (Or.inl q)) (fun q => hs3 (Or.inr q)) (by rw [hx15]; rfl) (by decide) dX11_rodTold_12 ?_
                  refine j_aload_n C 0 rfl rfl dX11_rodTold_99 ?_
                  refine j_iload_n C 1 rfl rfl dX11_rodTold_100 ?_
                  obtain ⟨q16, hq16, h⟩ := bi_some h
                  refine j_callVi (As := [.int a1]) (rest := []) C (c_X11_isNeeded hq16) (cwV 1 C.ts (good_V mw_1203 mw_1205 mw_51 mw_73 mw_1206) rfl rfl rfl (by decide +kernel) ⟨Nat.le_of_ble_eq_true rfl, Nat.le_of_ble_eq_true rfl⟩) (fun H hW => CW.rv C.k hW (by decide) cw_30 rfl) rfl rfl (Nat.le_of_ble_eq_true rfl) dX11_rodTold_101 ⟨Nat.zero_le _, Nat.zero_le _⟩ ?_
                  refine j_if_eq (tgt := 111) C (by decide) dX11_rodTold_104 (fun hc17 => ?_) (fun hc17 => ?_)
                  · replace h := (if_pos hc17).symm.trans h
                    refine j_iconst (v := 0) C (by decide) dX11_rodTold_111 ?_
                    obtain rfl := Option.some.inj h
                    exact j_iret C rfl rfl (Nat.le_refl _) (Nat.le_refl _) dX11_rodTold_112
                  · replace h := (if_neg hc17).symm.trans h
                    refine j_iconst (v := 1) C (by decide) dX11_rodTold_107 ?_
                    refine j_goto (tgt := 112) C (by decide) dX11_rodTold_108 ?_
                    obtain rfl := Option.some.inj h
                    exact j_iret C rfl rfl (Nat.le_refl _) (Nat.le_refl _) dX11_rodTold_112
                · replace h := (if_neg hx15).symm.trans h
                  by_cases hx18 : a2 = (6 : Int32)
                  · replace h := (if_pos hx18).symm.trans h
                    refine j_tableIn (off := 101) (tgt := 113) C (fun q => hs3 (Or.inl q)) (fun q => hs3 (Or.inr q)) (by rw [hx18]; rfl) (by decide) dX11_rodTold_12 ?_
                    refine j_aload_n C 0 rfl rfl dX11_rodTold_113 ?_
                    obtain ⟨q19, hq19, h⟩ := bi_some h
                    refine j_callVv (As := []) (rest := []) C (c_X11_findBodies hq19) (cwV 0 C.ts (good_V mw_1180 mw_1182 mw_46 mw_73 mw_1183) rfl rfl rfl (by decide +kernel) ⟨Nat.le_of_ble_eq_true rfl, Nat.le_of_ble_eq_true rfl⟩) (fun H hW => CW.rv C.k hW (by decide) cw_30 rfl) rfl rfl (Nat.le_of_ble_eq_true rfl) dX11_rodTold_114 ⟨Nat.zero_le _, Nat.zero_le _⟩ ?_
                    refine j_iconst (v := 0) C (by decide) dX11_rodTold_117 ?_
                    refine j_istore_n (L' := [(3, .int (0 : Int32)), (0, .ref (ad 30 0)), (1, .int a1), (2, .int a2)]) C rfl (by decide) rfl dX11_rodTold_118 ?_
                    exact j_sub [1, 2, 0] rfl (t_X11_rodTold_119 C FU q19 a1 (0 : Int32) h)
                  · replace h := (if_neg hx18).symm.trans h
                    cases h
  · replace h := (if_pos hc2).symm.trans h
    refine j_bipush (v := -2) C (by decide) dX11_rodTold_8 ?_
    obtain rfl := Option.some.inj h
    exact j_iret C rfl rfl (Nat.le_refl _) (Nat.le_refl _) dX11_rodTold_10
set_option maxRecDepth 100000 in
set_option maxHeartbeats 4000000 in
theorem c_X11_rodTold {l : Launch} {g : Gc} {ad : Nat → Nat → Nat} {χ : Mem} {T : Nat → Mem} {σ : Mem} {a1 : Int32} {a2 : Int32} {rr : Mem × Int32} (h : f_X11_rodTold σ a1 a2 = some rr) : Met l yX11_rodTold (WS yX11_rodTold cX11_rodTold 4 (some .int)) rm_X11_rodTold (PreW g ad χ T σ [.ref (ad 30 0), .int a1, .int a2]) (PoI g ad χ T (rr.1) rr.2) 0 0 (geB g) := by
  refine j_metW (by decide) (Nat.le_of_ble_eq_true rfl) fun p e s m below meth c C hname => ?_
  rw [f_X11_rodTold] at h
  exact j_sub [0, 1, 2] rfl (t_X11_rodTold_0 C σ a1 a2 h)
set_option maxRecDepth 100000 in
set_option maxHeartbeats 4000000 in
theorem t_X11_motion_0 {χ : Mem} {T : Nat → Mem} (C : Cx p s m args meth c cX11_motion 5 RX11 (some .long) COM g) {rr : Mem × Int64} (σ : Mem) (a1 : Int32) (a2 : Int32) (a3 : Int32) (h : f_X11_motion_0 σ a1 a2 a3 = some rr) : JJ p l e rm_X11_motion s m args below meth c 5 g ad (MQ below (PoL g ad χ T (rr.1) rr.2) args s 0 0 (geB g)) χ T σ 0 0 [(0, .ref (ad 30 0)), (1, .int a1), (2, .int a2), (3, .int a3)] 0 [] := by
  rw [f_X11_motion_0] at h
  refine j_aload_n C 0 rfl rfl dX11_motion_0 ?_
  refine j_iload_n C 2 rfl rfl dX11_motion_1 ?_
  obtain ⟨q1, hq1, h⟩ := bi_some h
  refine j_callVi (As := [.int a2]) (rest := []) C (c_X11_isPin hq1) (cwV 1 C.ts (good_V mw_1117 mw_1119 mw_35 mw_73 mw_1120) rfl rfl rfl (by decide +kernel) ⟨Nat.le_of_ble_eq_true rfl, Nat.le_of_ble_eq_true rfl⟩) (fun H hW => CW.rv C.k hW (by decide) cw_30 rfl) rfl rfl (Nat.le_of_ble_eq_true rfl) dX11_motion_2 ⟨Nat.zero_le _, Nat.zero_le _⟩ ?_
  refine j_if_eq (tgt := 29) C (by decide) dX11_motion_5 (fun hc2 => ?_) (fun hc2 => ?_)
  · replace h := (if_pos hc2).symm.trans h
    refine j_ldc2 (v := -4611686018427387904) C mw_1231 dX11_motion_29 ?_
    obtain rfl := Option.some.inj h
    exact j_lret C rfl (Nat.le_refl _) (Nat.le_refl _) dX11_motion_32
  · replace h := (if_neg hc2).symm.trans h
    refine j_iload_n C 3 rfl rfl dX11_motion_8 ?_
    refine j_if_lt (tgt := 29) C (by decide) dX11_motion_9 (fun hc3 => ?_) (fun hc3 => ?_)
    · replace h := (if_pos hc3).symm.trans h
      refine j_ldc2 (v := -4611686018427387904) C mw_1231 dX11_motion_29 ?_
      obtain rfl := Option.some.inj h
      exact j_lret C rfl (Nat.le_refl _) (Nat.le_refl _) dX11_motion_32
    · replace h := (if_neg hc3).symm.trans h
      refine j_iload_n C 3 rfl rfl dX11_motion_12 ?_
      refine j_iconst (v := 1) C (by decide) dX11_motion_13 ?_
      refine j_icmp_gt (tgt := 29) C (by decide) dX11_motion_14 (fun hc4 => ?_) (fun hc4 => ?_)
      · replace h := (if_pos hc4).symm.trans h
        refine j_ldc2 (v := -4611686018427387904) C mw_1231 dX11_motion_29 ?_
        obtain rfl := Option.some.inj h
        exact j_lret C rfl (Nat.le_refl _) (Nat.le_refl _) dX11_motion_32
      · replace h := (if_neg hc4).symm.trans h
        refine j_iload_n C 1 rfl rfl dX11_motion_17 ?_
        refine j_if_lt (tgt := 29) C (by decide) dX11_motion_18 (fun hc5 => ?_) (fun hc5 => ?_)
        · replace h := (if_pos hc5).symm.trans h
          refine j_ldc2 (v := -4611686018427387904) C mw_1231 dX11_motion_29 ?_
          obtain rfl := Option.some.inj h
          exact j_lret C rfl (Nat.le_refl _) (Nat.le_refl _) dX11_motion_32
        · replace h := (if_neg hc5).symm.trans h
          refine j_iload_n C 1 rfl rfl dX11_motion_21 ?_
          refine j_aload_n C 0 rfl rfl dX11_motion_22 ?_
          obtain ⟨q6, hq6, h⟩ := bi_some h
          refine j_callVi (As := []) (rest := [.int a1]) C (c_X11_motions hq6) (cwV 0 C.ts (good_V mw_1149 mw_1151 mw_39 mw_73 mw_1152) rfl rfl rfl (by decide +kernel) ⟨Nat.le_of_ble_eq_true rfl, Nat.le_of_ble_eq_true rfl⟩) (fun H hW => CW.rv C.k hW (by decide) cw_30 rfl) rfl rfl (Nat.le_of_ble_eq_true rfl) dX11_motion_23 ⟨Nat.zero_le _, Nat.zero_le _⟩ ?_
          refine j_icmp_lt (tgt := 33) C (by decide) dX11_motion_26 (fun hc7 => ?_) (fun hc7 => ?_)
          · replace h := (if_pos hc7).symm.trans h
            refine j_aload_n C 0 rfl rfl dX11_motion_33 ?_
            refine j_iload_n C 2 rfl rfl dX11_motion_34 ?_
            obtain ⟨q8, hq8, h⟩ := bi_some h
            refine j_callVi (As := [.int a2]) (rest := []) C (c_X11_freeColumn hq8) (cwV 1 C.ts (good_V mw_1161 mw_1163 mw_42 mw_73 mw_1164) rfl rfl rfl (by decide +kernel) ⟨Nat.le_of_ble_eq_true rfl, Nat.le_of_ble_eq_true rfl⟩) (fun H hW => CW.rv C.k hW (by decide) cw_30 rfl) rfl rfl (Nat.le_of_ble_eq_true rfl) dX11_motion_35 ⟨Nat.zero_le _, Nat.zero_le _⟩ ?_
            refine j_istore (L' := [(4, .int q8), (0, .ref (ad 30 0)), (1, .int a1), (2, .int a2), (3, .int a3)]) C (by decide) rfl dX11_motion_38 ?_
            refine j_iload C 0 rfl dX11_motion_40 ?_
            refine j_iconst (v := -1) C (by decide) dX11_motion_42 ?_
            refine j_icmp_ne (tgt := 48) C (by decide) dX11_motion_43 (fun hc9 => ?_) (fun hc9 => ?_)
            · replace h := (if_neg hc9).symm.trans h
              refine j_aload_n C 1 rfl rfl dX11_motion_48 ?_
              refine j_aload_n C 1 rfl rfl dX11_motion_49 ?_
              refine j_iload_n C 2 rfl rfl dX11_motion_50 ?_
              obtain ⟨q10, hq10, h⟩ := bi_some h
              refine j_callVi (As := [.int a1]) (rest := [.ref (ad 30 0)]) C (c_X11_loose hq10) (cwV 1 C.ts (good_V mw_1211 mw_1213 mw_53 mw_73 mw_1214) rfl rfl rfl (by decide +kernel) ⟨Nat.le_of_ble_eq_true rfl, Nat.le_of_ble_eq_true rfl⟩) (fun H hW => CW.rv C.k hW (by decide) cw_30 rfl) rfl rfl (Nat.le_of_ble_eq_true rfl) dX11_motion_51 ⟨Nat.zero_le _, Nat.zero_le _⟩ ?_
              obtain ⟨q11, hq11, h⟩ := bi_some h
              refine j_callVv (As := [.int q10]) (rest := []) C (c_X11_nulOf hq11) (cwV 1 C.ts (good_V mw_1215 mw_1217 mw_54 mw_73 mw_1218) rfl rfl rfl (by decide +kernel) ⟨Nat.le_of_ble_eq_true rfl, Nat.le_of_ble_eq_true rfl⟩) (fun H hW => CW.rv C.k hW (by decide) cw_30 rfl) rfl rfl (Nat.le_of_ble_eq_true rfl) dX11_motion_54 ⟨Nat.zero_le _, Nat.zero_le _⟩ ?_
              refine j_aload_n C 1 rfl rfl dX11_motion_57 ?_
              refine j_getG C in_X11 (by decide) cw_30 rfl 16 (by decide) mw_1021 (fun _ h => h) rfl dX11_motion_58 ?_
              refine j_iload C 0 rfl dX11_motion_61 ?_
              refine j_iload_n C 4 rfl rfl dX11_motion_63 ?_
              refine j_iadd C dX11_motion_64 ?_
              obtain ⟨hg12, h⟩ := gd_some h
              refine j_lald C (by decide) cw_31_16 hg12 dX11_motion_65 ?_
              obtain rfl := Option.some.inj h
              exact j_lret C rfl (Nat.le_refl _) (Nat.le_refl _) dX11_motion_66
            · replace h := (if_pos hc9).symm.trans h
              refine j_lconst (v := 0) C (by decide) dX11_motion_46 ?_
              obtain rfl := Option.some.inj h
              exact j_lret C rfl (Nat.le_refl _) (Nat.le_refl _) dX11_motion_47
          · replace h := (if_neg hc7).symm.trans h
            refine j_ldc2 (v := -4611686018427387904) C mw_1231 dX11_motion_29 ?_
            obtain rfl := Option.some.inj h
            exact j_lret C rfl (Nat.le_refl _) (Nat.le_refl _) dX11_motion_32
set_option maxRecDepth 100000 in
set_option maxHeartbeats 4000000 in
theorem c_X11_motion {l : Launch} {g : Gc} {ad : Nat → Nat → Nat} {χ : Mem} {T : Nat → Mem} {σ : Mem} {a1 : Int32} {a2 : Int32} {a3 : Int32} {rr : Mem × Int64} (h : f_X11_motion σ a1 a2 a3 = some rr) : Met l yX11_motion (WS yX11_motion cX11_motion 5 (some .long)) rm_X11_motion (PreW g ad χ T σ [.ref (ad 30 0), .int a1, .int a2, .int a3]) (PoL g ad χ T (rr.1) rr.2) 0 0 (geB g) := by
  refine j_metW (by decide) (Nat.le_of_ble_eq_true rfl) fun p e s m below meth c C hname => ?_
  rw [f_X11_motion] at h
  exact j_sub [0, 1, 2, 3] rfl (t_X11_motion_0 C σ a1 a2 a3 h)
set_option maxRecDepth 100000 in
set_option maxHeartbeats 4000000 in
theorem t_X11_stress_0 {χ : Mem} {T : Nat → Mem} (C : Cx p s m args meth c cX11_stress 3 RX11 (some .long) COM g) {rr : Mem × Int64} (σ : Mem) (a1 : Int32) (a2 : Int32) (h : f_X11_stress_0 σ a1 a2 = some rr) : JJ p l e rm_X11_stress s m args below meth c 3 g ad (MQ below (PoL g ad χ T (rr.1) rr.2) args s 0 0 (geB g)) χ T σ 0 0 [(0, .ref (ad 30 0)), (1, .int a1), (2, .int a2)] 0 [] := by
  rw [f_X11_stress_0] at h
  refine j_aload_n C 0 rfl rfl dX11_stress_0 ?_
  refine j_iload_n C 2 rfl rfl dX11_stress_1 ?_
  obtain ⟨q1, hq1, h⟩ := bi_some h
  refine j_callVi (As := [.int a2]) (rest := []) C (c_X11_isRod hq1) (cwV 1 C.ts (good_V mw_1133 mw_1135 mw_36 mw_73 mw_1136) rfl rfl rfl (by decide +kernel) ⟨Nat.le_of_ble_eq_true rfl, Nat.le_of_ble_eq_true rfl⟩) (fun H hW => CW.rv C.k hW (by decide) cw_30 rfl) rfl rfl (Nat.le_of_ble_eq_true rfl) dX11_stress_2 ⟨Nat.zero_le _, Nat.zero_le _⟩ ?_
  refine j_if_eq (tgt := 20) C (by decide) dX11_stress_5 (fun hc2 => ?_) (fun hc2 => ?_)
  · replace h := (if_pos hc2).symm.trans h
    refine j_ldc2 (v := -4611686018427387904) C mw_1231 dX11_stress_20 ?_
    obtain rfl := Option.some.inj h
    exact j_lret C rfl (Nat.le_refl _) (Nat.le_refl _) dX11_stress_23
  · replace h := (if_neg hc2).symm.trans h
    refine j_iload_n C 1 rfl rfl dX11_stress_8 ?_
    refine j_if_lt (tgt := 20) C (by decide) dX11_stress_9 (fun hc3 => ?_) (fun hc3 => ?_)
    · replace h := (if_pos hc3).symm.trans h
      refine j_ldc2 (v := -4611686018427387904) C mw_1231 dX11_stress_20 ?_
      obtain rfl := Option.some.inj h
      exact j_lret C rfl (Nat.le_refl _) (Nat.le_refl _) dX11_stress_23
    · replace h := (if_neg hc3).symm.trans h
      refine j_iload_n C 1 rfl rfl dX11_stress_12 ?_
      refine j_aload_n C 0 rfl rfl dX11_stress_13 ?_
      obtain ⟨q4, hq4, h⟩ := bi_some h
      refine j_callVi (As := []) (rest := [.int a1]) C (c_X11_stresses hq4) (cwV 0 C.ts (good_V mw_1176 mw_1178 mw_45 mw_73 mw_1179) rfl rfl rfl (by decide +kernel) ⟨Nat.le_of_ble_eq_true rfl, Nat.le_of_ble_eq_true rfl⟩) (fun H hW => CW.rv C.k hW (by decide) cw_30 rfl) rfl rfl (Nat.le_of_ble_eq_true rfl) dX11_stress_14 ⟨Nat.zero_le _, Nat.zero_le _⟩ ?_
      refine j_icmp_lt (tgt := 24) C (by decide) dX11_stress_17 (fun hc5 => ?_) (fun hc5 => ?_)
      · replace h := (if_pos hc5).symm.trans h
        refine j_aload_n C 0 rfl rfl dX11_stress_24 ?_
        refine j_getG C in_X11 (by decide) cw_30 rfl 11 (by decide) mw_1016 (fun _ h => h) rfl dX11_stress_25 ?_
        refine j_iload_n C 2 rfl rfl dX11_stress_28 ?_
        obtain ⟨hg6, h⟩ := gd_some h
        refine j_zald C (by decide) cw_31_11 hg6 dX11_stress_29 ?_
        refine j_if_ne (tgt := 35) C (by decide) dX11_stress_30 (fun hc7 => ?_) (fun hc7 => ?_)
        · replace h := (if_neg hc7).symm.trans h
          refine j_aload_n C 0 rfl rfl dX11_stress_35 ?_
          refine j_aload_n C 0 rfl rfl dX11_stress_36 ?_
          refine j_iload_n C 1 rfl rfl dX11_stress_37 ?_
          obtain ⟨q8, hq8, h⟩ := bi_some h
          refine j_callVi (As := [.int a1]) (rest := [.ref (ad 30 0)]) C (c_X11_loose hq8) (cwV 1 C.ts (good_V mw_1211 mw_1213 mw_53 mw_73 mw_1214) rfl rfl rfl (by decide +kernel) ⟨Nat.le_of_ble_eq_true rfl, Nat.le_of_ble_eq_true rfl⟩) (fun H hW => CW.rv C.k hW (by decide) cw_30 rfl) rfl rfl (Nat.le_of_ble_eq_true rfl) dX11_stress_38 ⟨Nat.zero_le _, Nat.zero_le _⟩ ?_
          obtain ⟨q9, hq9, h⟩ := bi_some h
          refine j_callVv (As := [.int q8]) (rest := []) C (c_X11_nulOf hq9) (cwV 1 C.ts (good_V mw_1215 mw_1217 mw_54 mw_73 mw_1218) rfl rfl rfl (by decide +kernel) ⟨Nat.le_of_ble_eq_true rfl, Nat.le_of_ble_eq_true rfl⟩) (fun H hW => CW.rv C.k hW (by decide) cw_30 rfl) rfl rfl (Nat.le_of_ble_eq_true rfl) dX11_stress_41 ⟨Nat.zero_le _, Nat.zero_le _⟩ ?_
          refine j_aload_n C 0 rfl rfl dX11_stress_44 ?_
          refine j_getG C in_X11 (by decide) cw_30 rfl 16 (by decide) mw_1021 (fun _ h => h) rfl dX11_stress_45 ?_
          refine j_aload_n C 0 rfl rfl dX11_stress_48 ?_
          refine j_iload_n C 2 rfl rfl dX11_stress_49 ?_
          obtain ⟨q10, hq10, h⟩ := bi_some h
          refine j_callVi (As := [.int a2]) (rest := [.ref (ad 31 16)]) C (c_X11_columnOf hq10) (cwV 1 C.ts (good_V mw_1207 mw_1209 mw_52 mw_73 mw_1210) rfl rfl rfl (by decide +kernel) ⟨Nat.le_of_ble_eq_true rfl, Nat.le_of_ble_eq_true rfl⟩) (fun H hW => CW.rv C.k hW (by decide) cw_30 rfl) rfl rfl (Nat.le_of_ble_eq_true rfl) dX11_stress_50 ⟨Nat.zero_le _, Nat.zero_le _⟩ ?_
          obtain ⟨hg11, h⟩ := gd_some h
          refine j_lald C (by decide) cw_31_16 hg11 dX11_stress_53 ?_
          obtain rfl := Option.some.inj h
          exact j_lret C rfl (Nat.le_refl _) (Nat.le_refl _) dX11_stress_54
        · replace h := (if_pos hc7).symm.trans h
          refine j_lconst (v := 0) C (by decide) dX11_stress_33 ?_
          obtain rfl := Option.some.inj h
          exact j_lret C rfl (Nat.le_refl _) (Nat.le_refl _) dX11_stress_34
      · replace h := (if_neg hc5).symm.trans h
        refine j_ldc2 (v := -4611686018427387904) C mw_1231 dX11_stress_20 ?_
        obtain rfl := Option.some.inj h
        exact j_lret C rfl (Nat.le_refl _) (Nat.le_refl _) dX11_stress_23
set_option maxRecDepth 100000 in
set_option maxHeartbeats 4000000 in
theorem c_X11_stress {l : Launch} {g : Gc} {ad : Nat → Nat → Nat} {χ : Mem} {T : Nat → Mem} {σ : Mem} {a1 : Int32} {a2 : Int32} {rr : Mem × Int64} (h : f_X11_stress σ a1 a2 = some rr) : Met l yX11_stress (WS yX11_stress cX11_stress 3 (some .long)) rm_X11_stress (PreW g ad χ T σ [.ref (ad 30 0), .int a1, .int a2]) (PoL g ad χ T (rr.1) rr.2) 0 0 (geB g) := by
  refine j_metW (by decide) (Nat.le_of_ble_eq_true rfl) fun p e s m below meth c C hname => ?_
  rw [f_X11_stress] at h
  exact j_sub [0, 1, 2] rfl (t_X11_stress_0 C σ a1 a2 h)
set_option maxRecDepth 100000 in
set_option maxHeartbeats 4000000 in
theorem t_X11_stiff_0 {χ : Mem} {T : Nat → Mem} (C : Cx p s m args meth c cX11_stiff 1 RX11 (some .int) COM g) {rr : Mem × Int32} (σ : Mem) (h : f_X11_stiff_0 σ = some rr) : JJ p l e rm_X11_stiff s m args below meth c 1 g ad (MQ below (PoI g ad χ T (rr.1) rr.2) args s 0 0 (geB g)) χ T σ 0 0 [(0, .ref (ad 30 0))] 0 [] := by
  rw [f_X11_stiff_0] at h
  refine j_aload_n C 0 rfl rfl dX11_stiff_0 ?_
  refine j_aload_n C 0 rfl rfl dX11_stiff_1 ?_
  refine j_getG C in_X11 (by decide) cw_30 rfl 11 (by decide) mw_1016 (fun _ h => h) rfl dX11_stiff_2 ?_
  obtain ⟨q1, hq1, h⟩ := bi_some h
  refine j_callVi (As := [.ref (ad 31 11)]) (rest := []) C (c_X11_isStiff_isIn hq1) (cwV 1 C.ts (good_V mw_1240 mw_1242 mw_55 mw_73 mw_1243) rfl rfl rfl (by decide +kernel) ⟨Nat.le_of_ble_eq_true rfl, Nat.le_of_ble_eq_true rfl⟩) (fun H hW => CW.rv C.k hW (by decide) cw_30 rfl) rfl rfl (Nat.le_of_ble_eq_true rfl) dX11_stiff_5 ⟨Nat.zero_le _, Nat.zero_le _⟩ ?_
  refine j_if_eq (tgt := 15) C (by decide) dX11_stiff_8 (fun hc2 => ?_) (fun hc2 => ?_)
  · replace h := (if_pos hc2).symm.trans h
    refine j_iconst (v := 0) C (by decide) dX11_stiff_15 ?_
    obtain rfl := Option.some.inj h
    exact j_iret C rfl rfl (Nat.le_refl _) (Nat.le_refl _) dX11_stiff_16
  · replace h := (if_neg hc2).symm.trans h
    refine j_iconst (v := 1) C (by decide) dX11_stiff_11 ?_
    refine j_goto (tgt := 16) C (by decide) dX11_stiff_12 ?_
    obtain rfl := Option.some.inj h
    exact j_iret C rfl rfl (Nat.le_refl _) (Nat.le_refl _) dX11_stiff_16
set_option maxRecDepth 100000 in
set_option maxHeartbeats 4000000 in
theorem c_X11_stiff {l : Launch} {g : Gc} {ad : Nat → Nat → Nat} {χ : Mem} {T : Nat → Mem} {σ : Mem} {rr : Mem × Int32} (h : f_X11_stiff σ = some rr) : Met l yX11_stiff (WS yX11_stiff cX11_stiff 1 (some .int)) rm_X11_stiff (PreW g ad χ T σ [.ref (ad 30 0)]) (PoI g ad χ T (rr.1) rr.2) 0 0 (geB g) := by
  refine j_metW (by decide) (Nat.le_of_ble_eq_true rfl) fun p e s m below meth c C hname => ?_
  rw [f_X11_stiff] at h
  exact j_sub [0] rfl (t_X11_stiff_0 C σ h)
set_option maxRecDepth 100000 in
set_option maxHeartbeats 4000000 in
theorem t_X11_tight_94 {χ : Mem} {T : Nat → Mem} (C : Cx p s m args meth c cX11_tight 7 RX11 (some .int) COM g) {rr : Mem × Int32} {k25 : Mem → Int32 → Int32 → Int32 → Option (Mem × Int32)} (hk25 : ∀ (σ : Mem) (v1 : Int32) (v2 : Int32) (v3 : Int32) , k25 σ v1 v2 v3 = some rr → JJ p l e rm_X11_tight s m args below meth c 7 g ad (MQ below (PoI g ad χ T (rr.1) rr.2) args s 0 0 (geB g)) χ T σ 0 0 [(0, .ref (ad 30 0)), (1, .int v1), (2, .int v2), (3, .int v3)] 25 []) (σ : Mem) (v1 : Int32) (v2 : Int32) (v3 : Int32) (v5 : Int64) (h : f_X11_tight_94 k25 σ v1 v2 v3 v5 = some rr) : JJ p l e rm_X11_tight s m args below meth c 7 g ad (MQ below (PoI g ad χ T (rr.1) rr.2) args s 0 0 (geB g)) χ T σ 0 0 [(0, .ref (ad 30 0)), (1, .int v1), (2, .int v2), (3, .int v3), (5, .long v5)] 94 [] := by
  rw [f_X11_tight_94] at h
  refine j_lload C 4 rfl dX11_tight_94 ?_
  refine j_lconst (v := 0) C (by decide) dX11_tight_96 ?_
  refine j_lcmp_lt (tgt := 103) C dX11_tight_98 (by decide) dX11_tight_97 (fun hc1 => ?_) (fun hc1 => ?_)
  · replace h := (if_pos hc1).symm.trans h
    refine j_iinc (v := v3 + (1 : Int32)) (L' := [(3, .int (v3 + (1 : Int32))), (0, .ref (ad 30 0)), (1, .int v1), (2, .int v2), (5, .long v5)]) C 3 rfl rfl (by decide) rfl dX11_tight_103 ?_
    refine j_goto (tgt := 25) C (by decide) dX11_tight_106 ?_
    exact j_sub [1, 2, 3, 0] rfl (hk25 σ v1 v2 (v3 + (1 : Int32)) h)
  · replace h := (if_neg hc1).symm.trans h
    refine j_iconst (v := 0) C (by decide) dX11_tight_101 ?_
    refine j_istore_n (L' := [(2, .int (0 : Int32)), (0, .ref (ad 30 0)), (1, .int v1), (3, .int v3), (5, .long v5)]) C rfl (by decide) rfl dX11_tight_102 ?_
    refine j_iinc (v := v3 + (1 : Int32)) (L' := [(3, .int (v3 + (1 : Int32))), (2, .int (0 : Int32)), (0, .ref (ad 30 0)), (1, .int v1), (5, .long v5)]) C 3 rfl rfl (by decide) rfl dX11_tight_103 ?_
    refine j_goto (tgt := 25) C (by decide) dX11_tight_106 ?_
    exact j_sub [2, 3, 1, 0] rfl (hk25 σ v1 (0 : Int32) (v3 + (1 : Int32)) h)
set_option maxRecDepth 100000 in
set_option maxHeartbeats 4000000 in
theorem t_X11_tight_83 {χ : Mem} {T : Nat → Mem} (C : Cx p s m args meth c cX11_tight 7 RX11 (some .int) COM g) {rr : Mem × Int32} {k25 : Mem → Int32 → Int32 → Int32 → Option (Mem × Int32)} (hk25 : ∀ (σ : Mem) (v1 : Int32) (v2 : Int32) (v3 : Int32) , k25 σ v1 v2 v3 = some rr → JJ p l e rm_X11_tight s m args below meth c 7 g ad (MQ below (PoI g ad χ T (rr.1) rr.2) args s 0 0 (geB g)) χ T σ 0 0 [(0, .ref (ad 30 0)), (1, .int v1), (2, .int v2), (3, .int v3)] 25 []) (σ : Mem) (v1 : Int32) (v2 : Int32) (v3 : Int32) (s0 : Int64) (h : f_X11_tight_83 k25 σ v1 v2 v3 s0 = some rr) : JJ p l e rm_X11_tight s m args below meth c 7 g ad (MQ below (PoI g ad χ T (rr.1) rr.2) args s 0 0 (geB g)) χ T σ 0 0 [(0, .ref (ad 30 0)), (1, .int v1), (2, .int v2), (3, .int v3)] 83 [.long s0] := by
  rw [f_X11_tight_83] at h
  refine j_lstore (L' := [(5, .long s0), (0, .ref (ad 30 0)), (1, .int v1), (2, .int v2), (3, .int v3)]) C (by decide) rfl dX11_tight_83 ?_
  refine j_lload C 0 rfl dX11_tight_85 ?_
  refine j_lconst (v := 0) C (by decide) dX11_tight_87 ?_
  refine j_lcmp_gt (tgt := 94) C dX11_tight_89 (by decide) dX11_tight_88 (fun hc1 => ?_) (fun hc1 => ?_)
  · replace h := (if_pos hc1).symm.trans h
    exact j_sub [1, 2, 3, 4, 0] rfl (t_X11_tight_94 C hk25 σ v1 v2 v3 s0 h)
  · replace h := (if_neg hc1).symm.trans h
    refine j_iconst (v := 0) C (by decide) dX11_tight_92 ?_
    refine j_istore_n (L' := [(1, .int (0 : Int32)), (5, .long s0), (0, .ref (ad 30 0)), (2, .int v2), (3, .int v3)]) C rfl (by decide) rfl dX11_tight_93 ?_
    exact j_sub [2, 0, 3, 4, 1] rfl (t_X11_tight_94 C hk25 σ (0 : Int32) v2 v3 s0 h)
set_option maxRecDepth 100000 in
set_option maxHeartbeats 4000000 in
theorem t_X11_tight_61 {χ : Mem} {T : Nat → Mem} (C : Cx p s m args meth c cX11_tight 7 RX11 (some .int) COM g) {rr : Mem × Int32} {k25 : Mem → Int32 → Int32 → Int32 → Option (Mem × Int32)} (hk25 : ∀ (σ : Mem) (v1 : Int32) (v2 : Int32) (v3 : Int32) , k25 σ v1 v2 v3 = some rr → JJ p l e rm_X11_tight s m args below meth c 7 g ad (MQ below (PoI g ad χ T (rr.1) rr.2) args s 0 0 (geB g)) χ T σ 0 0 [(0, .ref (ad 30 0)), (1, .int v1), (2, .int v2), (3, .int v3)] 25 []) (σ : Mem) (v1 : Int32) (v2 : Int32) (v3 : Int32) (v4 : Int32) (h : f_X11_tight_61 k25 σ v1 v2 v3 v4 = some rr) : JJ p l e rm_X11_tight s m args below meth c 7 g ad (MQ below (PoI g ad χ T (rr.1) rr.2) args s 0 0 (geB g)) χ T σ 0 0 [(0, .ref (ad 30 0)), (1, .int v1), (2, .int v2), (3, .int v3), (4, .int v4)] 61 [] := by
  rw [f_X11_tight_61] at h
  refine j_iload C 4 rfl dX11_tight_61 ?_
  refine j_iconst (v := 1) C (by decide) dX11_tight_63 ?_
  refine j_icmp_ne (tgt := 76) C (by decide) dX11_tight_64 (fun hc1 => ?_) (fun hc1 => ?_)
  · replace h := (if_neg hc1).symm.trans h
    refine j_aload_n C 0 rfl rfl dX11_tight_76 ?_
    refine j_getG C in_X11 (by decide) cw_30 rfl 16 (by decide) mw_1021 (fun _ h => h) rfl dX11_tight_77 ?_
    refine j_iload_n C 3 rfl rfl dX11_tight_80 ?_
    obtain ⟨hg2, h⟩ := gd_some h
    refine j_lald C (by decide) cw_31_16 hg2 dX11_tight_81 ?_
    refine j_lneg C dX11_tight_82 ?_
    exact j_sub [0, 1, 2, 3] rfl (t_X11_tight_83 C hk25 σ v1 v2 v3 (-(gL σ 16 v3.toNatClampNeg)) h)
  · replace h := (if_pos hc1).symm.trans h
    refine j_aload_n C 0 rfl rfl dX11_tight_67 ?_
    refine j_getG C in_X11 (by decide) cw_30 rfl 16 (by decide) mw_1021 (fun _ h => h) rfl dX11_tight_68 ?_
    refine j_iload_n C 3 rfl rfl dX11_tight_71 ?_
    obtain ⟨hg3, h⟩ := gd_some h
    refine j_lald C (by decide) cw_31_16 hg3 dX11_tight_72 ?_
    refine j_goto (tgt := 83) C (by decide) dX11_tight_73 ?_
    exact j_sub [0, 1, 2, 3] rfl (t_X11_tight_83 C hk25 σ v1 v2 v3 (gL σ 16 v3.toNatClampNeg) h)
set_option maxRecDepth 100000 in
set_option maxHeartbeats 4000000 in
theorem t_X11_tight_25 {χ : Mem} {T : Nat → Mem} (C : Cx p s m args meth c cX11_tight 7 RX11 (some .int) COM g) {rr : Mem × Int32} : ∀ (n : Nat) (σ : Mem) (v1 : Int32) (v2 : Int32) (v3 : Int32) (h : f_X11_tight_25 n σ v1 v2 v3 = some rr), JJ p l e rm_X11_tight s m args below meth c 7 g ad (MQ below (PoI g ad χ T (rr.1) rr.2) args s 0 0 (geB g)) χ T σ 0 0 [(0, .ref (ad 30 0)), (1, .int v1), (2, .int v2), (3, .int v3)] 25 [] := by
  intro n
  induction n with
  | zero => intro  σ v1 v2 v3  h; cases h
  | succ n ih =>
  intro  σ v1 v2 v3  h
  rw [f_X11_tight_25] at h
  refine j_iload_n C 3 rfl rfl dX11_tight_25 ?_
  refine j_aload_n C 0 rfl rfl dX11_tight_26 ?_
  refine j_getG C in_X11 (by decide) cw_30 rfl 14 (by decide) mw_1019 (fun _ h => h) rfl dX11_tight_27 ?_
  refine j_icmp_ge (tgt := 109) C (by decide) dX11_tight_30 (fun hc1 => ?_) (fun hc1 => ?_)
  · replace h := (if_pos hc1).symm.trans h
    refine j_iload_n C 1 rfl rfl dX11_tight_109 ?_
    refine j_if_ne (tgt := 117) C (by decide) dX11_tight_110 (fun hc2 => ?_) (fun hc2 => ?_)
    · replace h := (if_neg hc2).symm.trans h
      refine j_iconst (v := 1) C (by decide) dX11_tight_117 ?_
      refine j_goto (tgt := 122) C (by decide) dX11_tight_118 ?_
      obtain rfl := Option.some.inj h
      exact j_iret C rfl rfl (Nat.le_refl _) (Nat.le_refl _) dX11_tight_122
    · replace h := (if_pos hc2).symm.trans h
      refine j_iload_n C 2 rfl rfl dX11_tight_113 ?_
      refine j_if_eq (tgt := 121) C (by decide) dX11_tight_114 (fun hc3 => ?_) (fun hc3 => ?_)
      · replace h := (if_pos hc3).symm.trans h
        refine j_iconst (v := 0) C (by decide) dX11_tight_121 ?_
        obtain rfl := Option.some.inj h
        exact j_iret C rfl rfl (Nat.le_refl _) (Nat.le_refl _) dX11_tight_122
      · replace h := (if_neg hc3).symm.trans h
        refine j_iconst (v := 1) C (by decide) dX11_tight_117 ?_
        refine j_goto (tgt := 122) C (by decide) dX11_tight_118 ?_
        obtain rfl := Option.some.inj h
        exact j_iret C rfl rfl (Nat.le_refl _) (Nat.le_refl _) dX11_tight_122
  · replace h := (if_neg hc1).symm.trans h
    refine j_aload_n C 0 rfl rfl dX11_tight_33 ?_
    refine j_getG C in_X11 (by decide) cw_30 rfl 7 (by decide) mw_1012 (fun _ h => h) rfl dX11_tight_34 ?_
    refine j_aload_n C 0 rfl rfl dX11_tight_37 ?_
    refine j_getG C in_X11 (by decide) cw_30 rfl 17 (by decide) mw_1022 (fun _ h => h) rfl dX11_tight_38 ?_
    refine j_iload_n C 3 rfl rfl dX11_tight_41 ?_
    obtain ⟨hg4, h⟩ := gd_some h
    refine j_iald C (by decide) cw_31_17 hg4 dX11_tight_42 ?_
    obtain ⟨hg5, h⟩ := gd_some h
    refine j_iald C (by decide) cw_31_7 hg5 dX11_tight_43 ?_
    refine j_istore (L' := [(4, .int (gI σ 7 (gI σ 17 v3.toNatClampNeg).toNatClampNeg)), (0, .ref (ad 30 0)), (1, .int v1), (2, .int v2), (3, .int v3)]) C (by decide) rfl dX11_tight_44 ?_
    refine j_iload C 0 rfl dX11_tight_46 ?_
    refine j_iconst (v := 1) C (by decide) dX11_tight_48 ?_
    refine j_icmp_eq (tgt := 61) C (by decide) dX11_tight_49 (fun hc6 => ?_) (fun hc6 => ?_)
    · replace h := (if_pos hc6).symm.trans h
      exact j_sub [1, 2, 3, 4, 0] rfl (t_X11_tight_61 C ih σ v1 v2 v3 (gI σ 7 (gI σ 17 v3.toNatClampNeg).toNatClampNeg) h)
    · replace h := (if_neg hc6).symm.trans h
      refine j_iload C 0 rfl dX11_tight_52 ?_
      refine j_iconst (v := 2) C (by decide) dX11_tight_54 ?_
      refine j_icmp_eq (tgt := 61) C (by decide) dX11_tight_55 (fun hc7 => ?_) (fun hc7 => ?_)
      · replace h := (if_pos hc7).symm.trans h
        exact j_sub [1, 2, 3, 4, 0] rfl (t_X11_tight_61 C ih σ v1 v2 v3 (gI σ 7 (gI σ 17 v3.toNatClampNeg).toNatClampNeg) h)
      · replace h := (if_neg hc7).symm.trans h
        refine j_goto (tgt := 103) C (by decide) dX11_tight_58 ?_
        refine j_iinc (v := v3 + (1 : Int32)) (L' := [(3, .int (v3 + (1 : Int32))), (4, .int (gI σ 7 (gI σ 17 v3.toNatClampNeg).toNatClampNeg)), (0, .ref (ad 30 0)), (1, .int v1), (2, .int v2)]) C 4 rfl rfl (by decide) rfl dX11_tight_103 ?_
        refine j_goto (tgt := 25) C (by decide) dX11_tight_106 ?_
        exact j_sub [2, 3, 4, 0] rfl (ih σ v1 v2 (v3 + (1 : Int32)) h)
set_option maxRecDepth 100000 in
set_option maxHeartbeats 4000000 in
theorem t_X11_tight_0 {χ : Mem} {T : Nat → Mem} (C : Cx p s m args meth c cX11_tight 7 RX11 (some .int) COM g) {rr : Mem × Int32} (σ : Mem) (h : f_X11_tight_0 σ = some rr) : JJ p l e rm_X11_tight s m args below meth c 7 g ad (MQ below (PoI g ad χ T (rr.1) rr.2) args s 0 0 (geB g)) χ T σ 0 0 [(0, .ref (ad 30 0))] 0 [] := by
  rw [f_X11_tight_0] at h
  refine j_aload_n C 0 rfl rfl dX11_tight_0 ?_
  obtain ⟨q1, hq1, h⟩ := bi_some h
  refine j_callVi (As := []) (rest := []) C (c_X11_stresses hq1) (cwV 0 C.ts (good_V mw_1176 mw_1178 mw_45 mw_73 mw_1179) rfl rfl rfl (by decide +kernel) ⟨Nat.le_of_ble_eq_true rfl, Nat.le_of_ble_eq_true rfl⟩) (fun H hW => CW.rv C.k hW (by decide) cw_30 rfl) rfl rfl (Nat.le_of_ble_eq_true rfl) dX11_tight_1 ⟨Nat.zero_le _, Nat.zero_le _⟩ ?_
  refine j_iconst (v := 1) C (by decide) dX11_tight_4 ?_
  refine j_icmp_eq (tgt := 10) C (by decide) dX11_tight_5 (fun hc2 => ?_) (fun hc2 => ?_)
  · replace h := (if_pos hc2).symm.trans h
    refine j_aload_n C 0 rfl rfl dX11_tight_10 ?_
    refine j_aload_n C 0 rfl rfl dX11_tight_11 ?_
    refine j_iconst (v := 0) C (by decide) dX11_tight_12 ?_
    obtain ⟨q3, hq3, h⟩ := bi_some h
    refine j_callVi (As := [.int (0 : Int32)]) (rest := [.ref (ad 30 0)]) C (c_X11_loose hq3) (cwV 1 C.ts (good_V mw_1211 mw_1213 mw_53 mw_73 mw_1214) rfl rfl rfl (by decide +kernel) ⟨Nat.le_of_ble_eq_true rfl, Nat.le_of_ble_eq_true rfl⟩) (fun H hW => CW.rv C.k hW (by decide) cw_30 rfl) rfl rfl (Nat.le_of_ble_eq_true rfl) dX11_tight_13 ⟨Nat.zero_le _, Nat.zero_le _⟩ ?_
    obtain ⟨q4, hq4, h⟩ := bi_some h
    refine j_callVv (As := [.int q3]) (rest := []) C (c_X11_nulOf hq4) (cwV 1 C.ts (good_V mw_1215 mw_1217 mw_54 mw_73 mw_1218) rfl rfl rfl (by decide +kernel) ⟨Nat.le_of_ble_eq_true rfl, Nat.le_of_ble_eq_true rfl⟩) (fun H hW => CW.rv C.k hW (by decide) cw_30 rfl) rfl rfl (Nat.le_of_ble_eq_true rfl) dX11_tight_16 ⟨Nat.zero_le _, Nat.zero_le _⟩ ?_
    refine j_iconst (v := 1) C (by decide) dX11_tight_19 ?_
    refine j_istore_n (L' := [(1, .int (1 : Int32)), (0, .ref (ad 30 0))]) C rfl (by decide) rfl dX11_tight_20 ?_
    refine j_iconst (v := 1) C (by decide) dX11_tight_21 ?_
    refine j_istore_n (L' := [(2, .int (1 : Int32)), (1, .int (1 : Int32)), (0, .ref (ad 30 0))]) C rfl (by decide) rfl dX11_tight_22 ?_
    refine j_iconst (v := 0) C (by decide) dX11_tight_23 ?_
    refine j_istore_n (L' := [(3, .int (0 : Int32)), (2, .int (1 : Int32)), (1, .int (1 : Int32)), (0, .ref (ad 30 0))]) C rfl (by decide) rfl dX11_tight_24 ?_
    exact j_sub [3, 2, 1, 0] rfl (t_X11_tight_25 C FU q4 (1 : Int32) (1 : Int32) (0 : Int32) h)
  · replace h := (if_neg hc2).symm.trans h
    refine j_iconst (v := -1) C (by decide) dX11_tight_8 ?_
    obtain rfl := Option.some.inj h
    exact j_iret C rfl rfl (Nat.le_refl _) (Nat.le_refl _) dX11_tight_9
set_option maxRecDepth 100000 in
set_option maxHeartbeats 4000000 in
theorem c_X11_tight {l : Launch} {g : Gc} {ad : Nat → Nat → Nat} {χ : Mem} {T : Nat → Mem} {σ : Mem} {rr : Mem × Int32} (h : f_X11_tight σ = some rr) : Met l yX11_tight (WS yX11_tight cX11_tight 7 (some .int)) rm_X11_tight (PreW g ad χ T σ [.ref (ad 30 0)]) (PoI g ad χ T (rr.1) rr.2) 0 0 (geB g) := by
  refine j_metW (by decide) (Nat.le_of_ble_eq_true rfl) fun p e s m below meth c C hname => ?_
  rw [f_X11_tight] at h
  exact j_sub [0] rfl (t_X11_tight_0 C σ h)
set_option maxRecDepth 100000 in
set_option maxHeartbeats 4000000 in
theorem t_X11_load_0 {χ : Mem} {T : Nat → Mem} (C : Cx p s m args meth c cX11_load 4 RX11 (some .int) COM g) {rr : Mem × Int32} (σ : Mem) (a1 : Int32) (a2 : Int32) (a3 : Int32) (h : f_X11_load_0 σ a1 a2 a3 = some rr) : JJ p l e rm_X11_load s m args below meth c 4 g ad (MQ below (PoI g ad χ T (rr.1) rr.2) args s 0 0 (geB g)) χ T σ 0 0 [(0, .ref (ad 30 0)), (1, .int a1), (2, .int a2), (3, .int a3)] 0 [] := by
  rw [f_X11_load_0] at h
  refine j_aload_n C 0 rfl rfl dX11_load_0 ?_
  refine j_iload_n C 1 rfl rfl dX11_load_1 ?_
  obtain ⟨q1, hq1, h⟩ := bi_some h
  refine j_callVi (As := [.int a1]) (rest := []) C (c_X11_isPin hq1) (cwV 1 C.ts (good_V mw_1117 mw_1119 mw_35 mw_73 mw_1120) rfl rfl rfl (by decide +kernel) ⟨Nat.le_of_ble_eq_true rfl, Nat.le_of_ble_eq_true rfl⟩) (fun H hW => CW.rv C.k hW (by decide) cw_30 rfl) rfl rfl (Nat.le_of_ble_eq_true rfl) dX11_load_2 ⟨Nat.zero_le _, Nat.zero_le _⟩ ?_
  refine j_if_eq (tgt := 32) C (by decide) dX11_load_5 (fun hc2 => ?_) (fun hc2 => ?_)
  · replace h := (if_pos hc2).symm.trans h
    refine j_bipush (v := -2) C (by decide) dX11_load_32 ?_
    obtain rfl := Option.some.inj h
    exact j_iret C rfl rfl (Nat.le_refl _) (Nat.le_refl _) dX11_load_34
  · replace h := (if_neg hc2).symm.trans h
    refine j_iload_n C 2 rfl rfl dX11_load_8 ?_
    refine j_bipush (v := -20) C (by decide) dX11_load_9 ?_
    refine j_icmp_lt (tgt := 32) C (by decide) dX11_load_11 (fun hc3 => ?_) (fun hc3 => ?_)
    · replace h := (if_pos hc3).symm.trans h
      refine j_bipush (v := -2) C (by decide) dX11_load_32 ?_
      obtain rfl := Option.some.inj h
      exact j_iret C rfl rfl (Nat.le_refl _) (Nat.le_refl _) dX11_load_34
    · replace h := (if_neg hc3).symm.trans h
      refine j_iload_n C 2 rfl rfl dX11_load_14 ?_
      refine j_bipush (v := 20) C (by decide) dX11_load_15 ?_
      refine j_icmp_gt (tgt := 32) C (by decide) dX11_load_17 (fun hc4 => ?_) (fun hc4 => ?_)
      · replace h := (if_pos hc4).symm.trans h
        refine j_bipush (v := -2) C (by decide) dX11_load_32 ?_
        obtain rfl := Option.some.inj h
        exact j_iret C rfl rfl (Nat.le_refl _) (Nat.le_refl _) dX11_load_34
      · replace h := (if_neg hc4).symm.trans h
        refine j_iload_n C 3 rfl rfl dX11_load_20 ?_
        refine j_bipush (v := -20) C (by decide) dX11_load_21 ?_
        refine j_icmp_lt (tgt := 32) C (by decide) dX11_load_23 (fun hc5 => ?_) (fun hc5 => ?_)
        · replace h := (if_pos hc5).symm.trans h
          refine j_bipush (v := -2) C (by decide) dX11_load_32 ?_
          obtain rfl := Option.some.inj h
          exact j_iret C rfl rfl (Nat.le_refl _) (Nat.le_refl _) dX11_load_34
        · replace h := (if_neg hc5).symm.trans h
          refine j_iload_n C 3 rfl rfl dX11_load_26 ?_
          refine j_bipush (v := 20) C (by decide) dX11_load_27 ?_
          refine j_icmp_le (tgt := 35) C (by decide) dX11_load_29 (fun hc6 => ?_) (fun hc6 => ?_)
          · replace h := (if_pos hc6).symm.trans h
            refine j_aload_n C 0 rfl rfl dX11_load_35 ?_
            refine j_getG C in_X11 (by decide) cw_30 rfl 6 (by decide) mw_1011 (fun _ h => h) rfl dX11_load_36 ?_
            refine j_iload_n C 1 rfl rfl dX11_load_39 ?_
            obtain ⟨hg7, h⟩ := gd_some h
            refine j_zald C (by decide) cw_31_6 hg7 dX11_load_40 ?_
            refine j_if_eq (tgt := 47) C (by decide) dX11_load_41 (fun hc8 => ?_) (fun hc8 => ?_)
            · replace h := (if_pos hc8).symm.trans h
              refine j_aload_n C 0 rfl rfl dX11_load_47 ?_
              refine j_getG C in_X11 (by decide) cw_30 rfl 4 (by decide) mw_1009 (fun _ h => h) rfl dX11_load_48 ?_
              refine j_iload_n C 1 rfl rfl dX11_load_51 ?_
              refine j_iload_n C 2 rfl rfl dX11_load_52 ?_
              refine j_iastP C (by decide) (po_M_fx a1.toNatClampNeg a2) hg7 dX11_load_53 ?_
              refine j_aload_n C 0 rfl rfl dX11_load_54 ?_
              refine j_getG C in_X11 (by decide) cw_30 rfl 5 (by decide) mw_1010 (fun _ h => h) rfl dX11_load_55 ?_
              refine j_iload_n C 1 rfl rfl dX11_load_58 ?_
              refine j_iload_n C 3 rfl rfl dX11_load_59 ?_
              refine j_iastP C (by decide) (po_M_fy a1.toNatClampNeg a3) hg7 dX11_load_60 ?_
              refine j_iconst (v := 1) C (by decide) dX11_load_61 ?_
              obtain rfl := Option.some.inj h
              exact j_iret C rfl rfl (Nat.le_refl _) (Nat.le_refl _) dX11_load_62
            · replace h := (if_neg hc8).symm.trans h
              refine j_bipush (v := -3) C (by decide) dX11_load_44 ?_
              obtain rfl := Option.some.inj h
              exact j_iret C rfl rfl (Nat.le_refl _) (Nat.le_refl _) dX11_load_46
          · replace h := (if_neg hc6).symm.trans h
            refine j_bipush (v := -2) C (by decide) dX11_load_32 ?_
            obtain rfl := Option.some.inj h
            exact j_iret C rfl rfl (Nat.le_refl _) (Nat.le_refl _) dX11_load_34
set_option maxRecDepth 100000 in
set_option maxHeartbeats 4000000 in
theorem c_X11_load {l : Launch} {g : Gc} {ad : Nat → Nat → Nat} {χ : Mem} {T : Nat → Mem} {σ : Mem} {a1 : Int32} {a2 : Int32} {a3 : Int32} {rr : Mem × Int32} (h : f_X11_load σ a1 a2 a3 = some rr) : Met l yX11_load (WS yX11_load cX11_load 4 (some .int)) rm_X11_load (PreW g ad χ T σ [.ref (ad 30 0), .int a1, .int a2, .int a3]) (PoI g ad χ T (rr.1) rr.2) 0 0 (geB g) := by
  refine j_metW (by decide) (Nat.le_of_ble_eq_true rfl) fun p e s m below meth c C hname => ?_
  rw [f_X11_load] at h
  exact j_sub [0, 1, 2, 3] rfl (t_X11_load_0 C σ a1 a2 a3 h)
set_option maxRecDepth 100000 in
set_option maxHeartbeats 4000000 in
theorem t_X11_carry_0 {χ : Mem} {T : Nat → Mem} (C : Cx p s m args meth c cX11_carry 1 RX11 (some .int) COM g) {rr : Mem × Int32} (σ : Mem) (h : f_X11_carry_0 σ = some rr) : JJ p l e rm_X11_carry s m args below meth c 1 g ad (MQ below (PoI g ad χ T (rr.1) rr.2) args s 0 0 (geB g)) χ T σ 0 0 [(0, .ref (ad 30 0))] 0 [] := by
  rw [f_X11_carry_0] at h
  refine j_aload_n C 0 rfl rfl dX11_carry_0 ?_
  obtain ⟨q1, hq1, h⟩ := bi_some h
  refine j_callVi (As := []) (rest := []) C (c_X11_stresses hq1) (cwV 0 C.ts (good_V mw_1176 mw_1178 mw_45 mw_73 mw_1179) rfl rfl rfl (by decide +kernel) ⟨Nat.le_of_ble_eq_true rfl, Nat.le_of_ble_eq_true rfl⟩) (fun H hW => CW.rv C.k hW (by decide) cw_30 rfl) rfl rfl (Nat.le_of_ble_eq_true rfl) dX11_carry_1 ⟨Nat.zero_le _, Nat.zero_le _⟩ ?_
  refine j_pop C rfl dX11_carry_4 ?_
  refine j_aload_n C 0 rfl rfl dX11_carry_5 ?_
  obtain ⟨q2, hq2, h⟩ := bi_some h
  refine j_callVi (As := []) (rest := []) C (c_X11_carries hq2) (cwV 0 C.ts (good_V mw_1260 mw_1262 mw_57 mw_73 mw_1263) rfl rfl rfl (by decide +kernel) ⟨Nat.le_of_ble_eq_true rfl, Nat.le_of_ble_eq_true rfl⟩) (fun H hW => CW.rv C.k hW (by decide) cw_30 rfl) rfl rfl (Nat.le_of_ble_eq_true rfl) dX11_carry_6 ⟨Nat.zero_le _, Nat.zero_le _⟩ ?_
  refine j_if_eq (tgt := 16) C (by decide) dX11_carry_9 (fun hc3 => ?_) (fun hc3 => ?_)
  · replace h := (if_pos hc3).symm.trans h
    refine j_iconst (v := 0) C (by decide) dX11_carry_16 ?_
    obtain rfl := Option.some.inj h
    exact j_iret C rfl rfl (Nat.le_refl _) (Nat.le_refl _) dX11_carry_17
  · replace h := (if_neg hc3).symm.trans h
    refine j_iconst (v := 1) C (by decide) dX11_carry_12 ?_
    refine j_goto (tgt := 17) C (by decide) dX11_carry_13 ?_
    obtain rfl := Option.some.inj h
    exact j_iret C rfl rfl (Nat.le_refl _) (Nat.le_refl _) dX11_carry_17
set_option maxRecDepth 100000 in
set_option maxHeartbeats 4000000 in
theorem c_X11_carry {l : Launch} {g : Gc} {ad : Nat → Nat → Nat} {χ : Mem} {T : Nat → Mem} {σ : Mem} {rr : Mem × Int32} (h : f_X11_carry σ = some rr) : Met l yX11_carry (WS yX11_carry cX11_carry 1 (some .int)) rm_X11_carry (PreW g ad χ T σ [.ref (ad 30 0)]) (PoI g ad χ T (rr.1) rr.2) 0 0 (geB g) := by
  refine j_metW (by decide) (Nat.le_of_ble_eq_true rfl) fun p e s m below meth c C hname => ?_
  rw [f_X11_carry] at h
  exact j_sub [0] rfl (t_X11_carry_0 C σ h)
set_option maxRecDepth 100000 in
set_option maxHeartbeats 4000000 in
theorem t_X11_force_134 {χ : Mem} {T : Nat → Mem} (C : Cx p s m args meth c cX11_force 10 RX11 (some .long) COM g) {rr : Mem × Int64} (σ : Mem) (v2 : Int32) (v4 : Int64) (v6 : Int64) (v8 : Int64) (h : f_X11_force_134 σ v2 v4 v6 v8 = some rr) : JJ p l e rm_X11_force s m args below meth c 10 g ad (MQ below (PoL g ad χ T (rr.1) rr.2) args s 0 0 (geB g)) χ T σ 0 0 [(2, .int v2), (4, .long v4), (6, .long v6), (8, .long v8)] 134 [] := by
  rw [f_X11_force_134] at h
  refine j_iload_n C 0 rfl rfl dX11_force_134 ?_
  refine j_if_ne (tgt := 146) C (by decide) dX11_force_135 (fun hc1 => ?_) (fun hc1 => ?_)
  · replace h := (if_neg hc1).symm.trans h
    refine j_lload C 2 rfl dX11_force_146 ?_
    refine j_lload C 3 rfl dX11_force_148 ?_
    obtain ⟨hg2, h⟩ := gz_some h
    refine j_ldiv C hg2 dX11_force_150 ?_
    obtain rfl := Option.some.inj h
    exact j_lret C rfl (Nat.le_refl _) (Nat.le_refl _) dX11_force_151
  · replace h := (if_pos hc1).symm.trans h
    refine j_lload C 1 rfl dX11_force_138 ?_
    refine j_lload C 3 rfl dX11_force_140 ?_
    obtain ⟨hg3, h⟩ := gz_some h
    refine j_ldiv C hg3 dX11_force_142 ?_
    refine j_goto (tgt := 151) C (by decide) dX11_force_143 ?_
    obtain rfl := Option.some.inj h
    exact j_lret C rfl (Nat.le_refl _) (Nat.le_refl _) dX11_force_151
set_option maxRecDepth 100000 in
set_option maxHeartbeats 4000000 in
theorem t_X11_force_55 {χ : Mem} {T : Nat → Mem} (C : Cx p s m args meth c cX11_force 10 RX11 (some .long) COM g) {rr : Mem × Int64} (σ : Mem) (v2 : Int32) (s0 : Int32) (h : f_X11_force_55 σ v2 s0 = some rr) : JJ p l e rm_X11_force s m args below meth c 10 g ad (MQ below (PoL g ad χ T (rr.1) rr.2) args s 0 0 (geB g)) χ T σ 0 0 [(0, .ref (ad 30 0)), (2, .int v2)] 55 [.int s0] := by
  rw [f_X11_force_55] at h
  refine j_istore_n (L' := [(3, .int s0), (0, .ref (ad 30 0)), (2, .int v2)]) C rfl (by decide) rfl dX11_force_55 ?_
  refine j_iload_n C 0 rfl rfl dX11_force_56 ?_
  refine j_iconst (v := -1) C (by decide) dX11_force_57 ?_
  refine j_icmp_eq (tgt := 71) C (by decide) dX11_force_58 (fun hc1 => ?_) (fun hc1 => ?_)
  · replace h := (if_pos hc1).symm.trans h
    refine j_iload_n C 2 rfl rfl dX11_force_71 ?_
    refine j_i2l C dX11_force_72 ?_
    obtain rfl := Option.some.inj h
    exact j_lret C rfl (Nat.le_refl _) (Nat.le_refl _) dX11_force_73
  · replace h := (if_neg hc1).symm.trans h
    refine j_aload_n C 1 rfl rfl dX11_force_61 ?_
    refine j_getG C in_X11 (by decide) cw_30 rfl 15 (by decide) mw_1020 (fun _ h => h) rfl dX11_force_62 ?_
    refine j_iload_n C 0 rfl rfl dX11_force_65 ?_
    obtain ⟨hg2, h⟩ := gd_some h
    refine j_iald C (by decide) cw_31_15 hg2 dX11_force_66 ?_
    refine j_iconst (v := -1) C (by decide) dX11_force_67 ?_
    refine j_icmp_ne (tgt := 74) C (by decide) dX11_force_68 (fun hc3 => ?_) (fun hc3 => ?_)
    · replace h := (if_neg hc3).symm.trans h
      refine j_aload_n C 1 rfl rfl dX11_force_74 ?_
      refine j_getG C in_X11 (by decide) cw_30 rfl 12 (by decide) mw_1017 (fun _ h => h) rfl dX11_force_75 ?_
      refine j_bipush (v := 16) C (by decide) dX11_force_78 ?_
      refine j_aload_n C 1 rfl rfl dX11_force_80 ?_
      refine j_getG C in_X11 (by decide) cw_30 rfl 15 (by decide) mw_1020 (fun _ h => h) rfl dX11_force_81 ?_
      refine j_iload_n C 0 rfl rfl dX11_force_84 ?_
      refine j_iald C (by decide) cw_31_15 hg2 dX11_force_85 ?_
      refine j_imul C dX11_force_86 ?_
      refine j_aload_n C 1 rfl rfl dX11_force_87 ?_
      refine j_getG C in_X11 (by decide) cw_30 rfl 14 (by decide) mw_1019 (fun _ h => h) rfl dX11_force_88 ?_
      refine j_iadd C dX11_force_91 ?_
      obtain ⟨hg4, h⟩ := gd_some h
      refine j_lald C (by decide) cw_31_12 hg4 dX11_force_92 ?_
      refine j_lstore (L' := [(4, .long (gL σ 12 (((16 : Int32) * (gI σ 15 s0.toNatClampNeg)) + (gI σ 14 0)).toNatClampNeg)), (3, .int s0), (0, .ref (ad 30 0)), (2, .int v2)]) C (by decide) rfl dX11_force_93 ?_
      refine j_aload_n C 2 rfl rfl dX11_force_95 ?_
      refine j_getG C in_X11 (by decide) cw_30 rfl 12 (by decide) mw_1017 (fun _ h => h) rfl dX11_force_96 ?_
      refine j_bipush (v := 16) C (by decide) dX11_force_99 ?_
      refine j_aload_n C 2 rfl rfl dX11_force_101 ?_
      refine j_getG C in_X11 (by decide) cw_30 rfl 15 (by decide) mw_1020 (fun _ h => h) rfl dX11_force_102 ?_
      refine j_iload_n C 1 rfl rfl dX11_force_105 ?_
      refine j_iald C (by decide) cw_31_15 hg2 dX11_force_106 ?_
      refine j_imul C dX11_force_107 ?_
      refine j_iload_n C 1 rfl rfl dX11_force_108 ?_
      refine j_iadd C dX11_force_109 ?_
      obtain ⟨hg5, h⟩ := gd_some h
      refine j_lald C (by decide) cw_31_12 hg5 dX11_force_110 ?_
      refine j_lstore (L' := [(6, .long (gL σ 12 (((16 : Int32) * (gI σ 15 s0.toNatClampNeg)) + s0).toNatClampNeg)), (4, .long (gL σ 12 (((16 : Int32) * (gI σ 15 s0.toNatClampNeg)) + (gI σ 14 0)).toNatClampNeg)), (3, .int s0), (0, .ref (ad 30 0)), (2, .int v2)]) C (by decide) rfl dX11_force_111 ?_
      refine j_lload C 1 rfl dX11_force_113 ?_
      refine j_lload C 0 rfl dX11_force_115 ?_
      obtain ⟨q6, hq6, h⟩ := bi_some h
      refine j_callSl (As := [.long (gL σ 12 (((16 : Int32) * (gI σ 15 s0.toNatClampNeg)) + (gI σ 14 0)).toNatClampNeg), .long (gL σ 12 (((16 : Int32) * (gI σ 15 s0.toNatClampNeg)) + s0).toNatClampNeg)]) (rest := []) C (c_X11_gcd hq6) (va_cwS 2 C.ts (good_S mw_1173 mw_1174 mw_73 mw_1175) rfl rfl rfl (by decide +kernel) ⟨Nat.le_of_ble_eq_true rfl, Nat.le_of_ble_eq_true rfl⟩) rfl rfl (Nat.le_of_ble_eq_true rfl) dX11_force_117 ⟨Nat.zero_le _, Nat.zero_le _⟩ ?_
      refine j_lstore (L' := [(8, .long q6), (6, .long (gL σ 12 (((16 : Int32) * (gI σ 15 s0.toNatClampNeg)) + s0).toNatClampNeg)), (4, .long (gL σ 12 (((16 : Int32) * (gI σ 15 s0.toNatClampNeg)) + (gI σ 14 0)).toNatClampNeg)), (3, .int s0), (0, .ref (ad 30 0)), (2, .int v2)]) C (by decide) rfl dX11_force_120 ?_
      refine j_lload C 1 rfl dX11_force_122 ?_
      refine j_lconst (v := 0) C (by decide) dX11_force_124 ?_
      refine j_lcmp_ge (tgt := 134) C dX11_force_126 (by decide) dX11_force_125 (fun hc7 => ?_) (fun hc7 => ?_)
      · replace h := (if_pos hc7).symm.trans h
        exact j_sub [5, 2, 1, 0] rfl (t_X11_force_134 C σ v2 (gL σ 12 (((16 : Int32) * (gI σ 15 s0.toNatClampNeg)) + (gI σ 14 0)).toNatClampNeg) (gL σ 12 (((16 : Int32) * (gI σ 15 s0.toNatClampNeg)) + s0).toNatClampNeg) q6 h)
      · replace h := (if_neg hc7).symm.trans h
        refine j_lload C 0 rfl dX11_force_129 ?_
        refine j_lneg C dX11_force_131 ?_
        refine j_lstore (L' := [(8, .long (-q6)), (6, .long (gL σ 12 (((16 : Int32) * (gI σ 15 s0.toNatClampNeg)) + s0).toNatClampNeg)), (4, .long (gL σ 12 (((16 : Int32) * (gI σ 15 s0.toNatClampNeg)) + (gI σ 14 0)).toNatClampNeg)), (3, .int s0), (0, .ref (ad 30 0)), (2, .int v2)]) C (by decide) rfl dX11_force_132 ?_
        exact j_sub [5, 2, 1, 0] rfl (t_X11_force_134 C σ v2 (gL σ 12 (((16 : Int32) * (gI σ 15 s0.toNatClampNeg)) + (gI σ 14 0)).toNatClampNeg) (gL σ 12 (((16 : Int32) * (gI σ 15 s0.toNatClampNeg)) + s0).toNatClampNeg) (-q6) h)
    · replace h := (if_pos hc3).symm.trans h
      refine j_iload_n C 2 rfl rfl dX11_force_71 ?_
      refine j_i2l C dX11_force_72 ?_
      obtain rfl := Option.some.inj h
      exact j_lret C rfl (Nat.le_refl _) (Nat.le_refl _) dX11_force_73
set_option maxRecDepth 100000 in
set_option maxHeartbeats 4000000 in
theorem t_X11_force_0 {χ : Mem} {T : Nat → Mem} (C : Cx p s m args meth c cX11_force 10 RX11 (some .long) COM g) {rr : Mem × Int64} (σ : Mem) (a1 : Int32) (a2 : Int32) (h : f_X11_force_0 σ a1 a2 = some rr) : JJ p l e rm_X11_force s m args below meth c 10 g ad (MQ below (PoL g ad χ T (rr.1) rr.2) args s 0 0 (geB g)) χ T σ 0 0 [(0, .ref (ad 30 0)), (1, .int a1), (2, .int a2)] 0 [] := by
  rw [f_X11_force_0] at h
  refine j_aload_n C 0 rfl rfl dX11_force_0 ?_
  refine j_iload_n C 1 rfl rfl dX11_force_1 ?_
  obtain ⟨q1, hq1, h⟩ := bi_some h
  refine j_callVi (As := [.int a1]) (rest := []) C (c_X11_isRod hq1) (cwV 1 C.ts (good_V mw_1133 mw_1135 mw_36 mw_73 mw_1136) rfl rfl rfl (by decide +kernel) ⟨Nat.le_of_ble_eq_true rfl, Nat.le_of_ble_eq_true rfl⟩) (fun H hW => CW.rv C.k hW (by decide) cw_30 rfl) rfl rfl (Nat.le_of_ble_eq_true rfl) dX11_force_2 ⟨Nat.zero_le _, Nat.zero_le _⟩ ?_
  refine j_if_eq (tgt := 17) C (by decide) dX11_force_5 (fun hc2 => ?_) (fun hc2 => ?_)
  · replace h := (if_pos hc2).symm.trans h
    refine j_ldc2 (v := -4611686018427387904) C mw_1231 dX11_force_17 ?_
    obtain rfl := Option.some.inj h
    exact j_lret C rfl (Nat.le_refl _) (Nat.le_refl _) dX11_force_20
  · replace h := (if_neg hc2).symm.trans h
    refine j_iload_n C 2 rfl rfl dX11_force_8 ?_
    refine j_if_lt (tgt := 17) C (by decide) dX11_force_9 (fun hc3 => ?_) (fun hc3 => ?_)
    · replace h := (if_pos hc3).symm.trans h
      refine j_ldc2 (v := -4611686018427387904) C mw_1231 dX11_force_17 ?_
      obtain rfl := Option.some.inj h
      exact j_lret C rfl (Nat.le_refl _) (Nat.le_refl _) dX11_force_20
    · replace h := (if_neg hc3).symm.trans h
      refine j_iload_n C 2 rfl rfl dX11_force_12 ?_
      refine j_iconst (v := 1) C (by decide) dX11_force_13 ?_
      refine j_icmp_le (tgt := 21) C (by decide) dX11_force_14 (fun hc4 => ?_) (fun hc4 => ?_)
      · replace h := (if_pos hc4).symm.trans h
        refine j_aload_n C 0 rfl rfl dX11_force_21 ?_
        obtain ⟨q5, hq5, h⟩ := bi_some h
        refine j_callVi (As := []) (rest := []) C (c_X11_stresses hq5) (cwV 0 C.ts (good_V mw_1176 mw_1178 mw_45 mw_73 mw_1179) rfl rfl rfl (by decide +kernel) ⟨Nat.le_of_ble_eq_true rfl, Nat.le_of_ble_eq_true rfl⟩) (fun H hW => CW.rv C.k hW (by decide) cw_30 rfl) rfl rfl (Nat.le_of_ble_eq_true rfl) dX11_force_22 ⟨Nat.zero_le _, Nat.zero_le _⟩ ?_
        refine j_pop C rfl dX11_force_25 ?_
        refine j_aload_n C 0 rfl rfl dX11_force_26 ?_
        obtain ⟨q6, hq6, h⟩ := bi_some h
        refine j_callVi (As := []) (rest := []) C (c_X11_carries hq6) (cwV 0 C.ts (good_V mw_1260 mw_1262 mw_57 mw_73 mw_1263) rfl rfl rfl (by decide +kernel) ⟨Nat.le_of_ble_eq_true rfl, Nat.le_of_ble_eq_true rfl⟩) (fun H hW => CW.rv C.k hW (by decide) cw_30 rfl) rfl rfl (Nat.le_of_ble_eq_true rfl) dX11_force_27 ⟨Nat.zero_le _, Nat.zero_le _⟩ ?_
        refine j_if_ne (tgt := 37) C (by decide) dX11_force_30 (fun hc7 => ?_) (fun hc7 => ?_)
        · replace h := (if_neg hc7).symm.trans h
          refine j_aload_n C 0 rfl rfl dX11_force_37 ?_
          refine j_getG C in_X11 (by decide) cw_30 rfl 11 (by decide) mw_1016 (fun _ h => h) rfl dX11_force_38 ?_
          refine j_iload_n C 1 rfl rfl dX11_force_41 ?_
          obtain ⟨hg8, h⟩ := gd_some h
          refine j_zald C (by decide) cw_31_11 hg8 dX11_force_42 ?_
          refine j_if_eq (tgt := 54) C (by decide) dX11_force_43 (fun hc9 => ?_) (fun hc9 => ?_)
          · replace h := (if_pos hc9).symm.trans h
            refine j_iconst (v := -1) C (by decide) dX11_force_54 ?_
            exact j_sub [0, 2] rfl (t_X11_force_55 C q5.1 a2 (-1 : Int32) h)
          · replace h := (if_neg hc9).symm.trans h
            refine j_aload_n C 0 rfl rfl dX11_force_46 ?_
            refine j_iload_n C 1 rfl rfl dX11_force_47 ?_
            obtain ⟨q10, hq10, h⟩ := bi_some h
            refine j_callVi (As := [.int a1]) (rest := []) C (c_X11_columnOf hq10) (cwV 1 C.ts (good_V mw_1207 mw_1209 mw_52 mw_73 mw_1210) rfl rfl rfl (by decide +kernel) ⟨Nat.le_of_ble_eq_true rfl, Nat.le_of_ble_eq_true rfl⟩) (fun H hW => CW.rv C.k hW (by decide) cw_30 rfl) rfl rfl (Nat.le_of_ble_eq_true rfl) dX11_force_48 ⟨Nat.zero_le _, Nat.zero_le _⟩ ?_
            refine j_goto (tgt := 55) C (by decide) dX11_force_51 ?_
            exact j_sub [0, 2] rfl (t_X11_force_55 C q5.1 a2 q10 h)
        · replace h := (if_pos hc7).symm.trans h
          refine j_ldc2 (v := -4611686018427387904) C mw_1231 dX11_force_33 ?_
          obtain rfl := Option.some.inj h
          exact j_lret C rfl (Nat.le_refl _) (Nat.le_refl _) dX11_force_36
      · replace h := (if_neg hc4).symm.trans h
        refine j_ldc2 (v := -4611686018427387904) C mw_1231 dX11_force_17 ?_
        obtain rfl := Option.some.inj h
        exact j_lret C rfl (Nat.le_refl _) (Nat.le_refl _) dX11_force_20
set_option maxRecDepth 100000 in
set_option maxHeartbeats 4000000 in
theorem c_X11_force {l : Launch} {g : Gc} {ad : Nat → Nat → Nat} {χ : Mem} {T : Nat → Mem} {σ : Mem} {a1 : Int32} {a2 : Int32} {rr : Mem × Int64} (h : f_X11_force σ a1 a2 = some rr) : Met l yX11_force (WS yX11_force cX11_force 10 (some .long)) rm_X11_force (PreW g ad χ T σ [.ref (ad 30 0), .int a1, .int a2]) (PoL g ad χ T (rr.1) rr.2) 0 0 (geB g) := by
  refine j_metW (by decide) (Nat.le_of_ble_eq_true rfl) fun p e s m below meth c C hname => ?_
  rw [f_X11_force] at h
  exact j_sub [0, 1, 2] rfl (t_X11_force_0 C σ a1 a2 h)
set_option maxRecDepth 100000 in
set_option maxHeartbeats 4000000 in
theorem t_X11_gives_26 {χ : Mem} {T : Nat → Mem} (C : Cx p s m args meth c cX11_gives 7 RX11 (some .int) COM g) {rr : Mem × Int32} {k7 : Mem → Int32 → Int32 → Option (Mem × Int32)} (hk7 : ∀ (σ : Mem) (v1 : Int32) (v2 : Int32) , k7 σ v1 v2 = some rr → JJ p l e rm_X11_gives s m args below meth c 7 g ad (MQ below (PoI g ad χ T (rr.1) rr.2) args s 0 0 (geB g)) χ T σ 0 0 [(0, .ref (ad 30 0)), (1, .int v1), (2, .int v2)] 7 []) : ∀ (n : Nat) (σ : Mem) (v1 : Int32) (v2 : Int32) (v3 : Int64) (v5 : Int32) (h : f_X11_gives_26 k7 n σ v1 v2 v3 v5 = some rr), JJ p l e rm_X11_gives s m args below meth c 7 g ad (MQ below (PoI g ad χ T (rr.1) rr.2) args s 0 0 (geB g)) χ T σ 0 0 [(0, .ref (ad 30 0)), (1, .int v1), (2, .int v2), (3, .long v3), (5, .int v5)] 26 [] := by
  intro n
  induction n with
  | zero => intro  σ v1 v2 v3 v5  h; cases h
  | succ n ih =>
  intro  σ v1 v2 v3 v5  h
  rw [f_X11_gives_26] at h
  refine j_iload C 4 rfl dX11_gives_26 ?_
  refine j_aload_n C 0 rfl rfl dX11_gives_28 ?_
  refine j_getG C in_X11 (by decide) cw_30 rfl 0 (by decide) mw_1005 (fun _ h => h) rfl dX11_gives_29 ?_
  refine j_icmp_ge (tgt := 93) C (by decide) dX11_gives_32 (fun hc1 => ?_) (fun hc1 => ?_)
  · replace h := (if_pos hc1).symm.trans h
    refine j_lload_n C 3 rfl rfl dX11_gives_93 ?_
    refine j_lconst (v := 0) C (by decide) dX11_gives_94 ?_
    refine j_lcmp_eq (tgt := 101) C dX11_gives_96 (by decide) dX11_gives_95 (fun hc2 => ?_) (fun hc2 => ?_)
    · replace h := (if_pos hc2).symm.trans h
      refine j_iinc (v := v2 + (1 : Int32)) (L' := [(2, .int (v2 + (1 : Int32))), (0, .ref (ad 30 0)), (1, .int v1), (3, .long v3), (5, .int v5)]) C 2 rfl rfl (by decide) rfl dX11_gives_101 ?_
      refine j_goto (tgt := 7) C (by decide) dX11_gives_104 ?_
      exact j_sub [1, 2, 0] rfl (hk7 σ v1 (v2 + (1 : Int32)) h)
    · replace h := (if_neg hc2).symm.trans h
      refine j_iload_n C 2 rfl rfl dX11_gives_99 ?_
      obtain rfl := Option.some.inj h
      exact j_iret C rfl rfl (Nat.le_refl _) (Nat.le_refl _) dX11_gives_100
  · replace h := (if_neg hc1).symm.trans h
    refine j_aload_n C 0 rfl rfl dX11_gives_35 ?_
    refine j_iload C 4 rfl dX11_gives_36 ?_
    obtain ⟨q3, hq3, h⟩ := bi_some h
    refine j_callVi (As := [.int v5]) (rest := []) C (c_X11_freeColumn hq3) (cwV 1 C.ts (good_V mw_1161 mw_1163 mw_42 mw_73 mw_1164) rfl rfl rfl (by decide +kernel) ⟨Nat.le_of_ble_eq_true rfl, Nat.le_of_ble_eq_true rfl⟩) (fun H hW => CW.rv C.k hW (by decide) cw_30 rfl) rfl rfl (Nat.le_of_ble_eq_true rfl) dX11_gives_38 ⟨Nat.zero_le _, Nat.zero_le _⟩ ?_
    refine j_istore (L' := [(6, .int q3), (0, .ref (ad 30 0)), (1, .int v1), (2, .int v2), (3, .long v3), (5, .int v5)]) C (by decide) rfl dX11_gives_41 ?_
    refine j_iload C 0 rfl dX11_gives_43 ?_
    refine j_iconst (v := -1) C (by decide) dX11_gives_45 ?_
    refine j_icmp_eq (tgt := 87) C (by decide) dX11_gives_46 (fun hc4 => ?_) (fun hc4 => ?_)
    · replace h := (if_pos hc4).symm.trans h
      refine j_iinc (v := v5 + (1 : Int32)) (L' := [(5, .int (v5 + (1 : Int32))), (6, .int q3), (0, .ref (ad 30 0)), (1, .int v1), (2, .int v2), (3, .long v3)]) C 5 rfl rfl (by decide) rfl dX11_gives_87 ?_
      refine j_goto (tgt := 26) C (by decide) dX11_gives_90 ?_
      exact j_sub [2, 3, 4, 5, 0] rfl (ih σ v1 v2 v3 (v5 + (1 : Int32)) h)
    · replace h := (if_neg hc4).symm.trans h
      refine j_lload_n C 4 rfl rfl dX11_gives_49 ?_
      refine j_aload_n C 1 rfl rfl dX11_gives_50 ?_
      refine j_getG C in_X11 (by decide) cw_30 rfl 16 (by decide) mw_1021 (fun _ h => h) rfl dX11_gives_51 ?_
      refine j_iload C 0 rfl dX11_gives_54 ?_
      obtain ⟨hg5, h⟩ := gd_some h
      refine j_lald C (by decide) cw_31_16 hg5 dX11_gives_56 ?_
      refine j_aload_n C 1 rfl rfl dX11_gives_57 ?_
      refine j_getG C in_X11 (by decide) cw_30 rfl 4 (by decide) mw_1009 (fun _ h => h) rfl dX11_gives_58 ?_
      refine j_iload C 5 rfl dX11_gives_61 ?_
      obtain ⟨hg6, h⟩ := gd_some h
      refine j_iald C (by decide) cw_31_4 hg6 dX11_gives_63 ?_
      refine j_i2l C dX11_gives_64 ?_
      refine j_lmul C dX11_gives_65 ?_
      refine j_aload_n C 1 rfl rfl dX11_gives_66 ?_
      refine j_getG C in_X11 (by decide) cw_30 rfl 16 (by decide) mw_1021 (fun _ h => h) rfl dX11_gives_67 ?_
      refine j_iload C 0 rfl dX11_gives_70 ?_
      refine j_iconst (v := 1) C (by decide) dX11_gives_72 ?_
      refine j_iadd C dX11_gives_73 ?_
      obtain ⟨hg7, h⟩ := gd_some h
      refine j_lald C (by decide) cw_31_16 hg7 dX11_gives_74 ?_
      refine j_aload_n C 1 rfl rfl dX11_gives_75 ?_
      refine j_getG C in_X11 (by decide) cw_30 rfl 5 (by decide) mw_1010 (fun _ h => h) rfl dX11_gives_76 ?_
      refine j_iload C 5 rfl dX11_gives_79 ?_
      refine j_iald C (by decide) cw_31_5 hg6 dX11_gives_81 ?_
      refine j_i2l C dX11_gives_82 ?_
      refine j_lmul C dX11_gives_83 ?_
      refine j_ladd C dX11_gives_84 ?_
      refine j_ladd C dX11_gives_85 ?_
      refine j_lstore_n (L' := [(3, .long (v3 + (((gL σ 16 q3.toNatClampNeg) * ((gI σ 4 v5.toNatClampNeg).toInt64)) + ((gL σ 16 (q3 + (1 : Int32)).toNatClampNeg) * ((gI σ 5 v5.toNatClampNeg).toInt64))))), (6, .int q3), (0, .ref (ad 30 0)), (1, .int v1), (2, .int v2), (5, .int v5)]) C rfl (by decide) rfl dX11_gives_86 ?_
      refine j_iinc (v := v5 + (1 : Int32)) (L' := [(5, .int (v5 + (1 : Int32))), (3, .long (v3 + (((gL σ 16 q3.toNatClampNeg) * ((gI σ 4 v5.toNatClampNeg).toInt64)) + ((gL σ 16 (q3 + (1 : Int32)).toNatClampNeg) * ((gI σ 5 v5.toNatClampNeg).toInt64))))), (6, .int q3), (0, .ref (ad 30 0)), (1, .int v1), (2, .int v2)]) C 5 rfl rfl (by decide) rfl dX11_gives_87 ?_
      refine j_goto (tgt := 26) C (by decide) dX11_gives_90 ?_
      exact j_sub [3, 4, 5, 1, 0] rfl (ih σ v1 v2 (v3 + (((gL σ 16 q3.toNatClampNeg) * ((gI σ 4 v5.toNatClampNeg).toInt64)) + ((gL σ 16 (q3 + (1 : Int32)).toNatClampNeg) * ((gI σ 5 v5.toNatClampNeg).toInt64)))) (v5 + (1 : Int32)) h)
set_option maxRecDepth 100000 in
set_option maxHeartbeats 4000000 in
theorem t_X11_gives_7 {χ : Mem} {T : Nat → Mem} (C : Cx p s m args meth c cX11_gives 7 RX11 (some .int) COM g) {rr : Mem × Int32} : ∀ (n : Nat) (σ : Mem) (v1 : Int32) (v2 : Int32) (h : f_X11_gives_7 n σ v1 v2 = some rr), JJ p l e rm_X11_gives s m args below meth c 7 g ad (MQ below (PoI g ad χ T (rr.1) rr.2) args s 0 0 (geB g)) χ T σ 0 0 [(0, .ref (ad 30 0)), (1, .int v1), (2, .int v2)] 7 [] := by
  intro n
  induction n with
  | zero => intro  σ v1 v2  h; cases h
  | succ n ih =>
  intro  σ v1 v2  h
  rw [f_X11_gives_7] at h
  refine j_iload_n C 2 rfl rfl dX11_gives_7 ?_
  refine j_iload_n C 1 rfl rfl dX11_gives_8 ?_
  refine j_icmp_ge (tgt := 107) C (by decide) dX11_gives_9 (fun hc1 => ?_) (fun hc1 => ?_)
  · replace h := (if_pos hc1).symm.trans h
    refine j_iconst (v := -1) C (by decide) dX11_gives_107 ?_
    obtain rfl := Option.some.inj h
    exact j_iret C rfl rfl (Nat.le_refl _) (Nat.le_refl _) dX11_gives_108
  · replace h := (if_neg hc1).symm.trans h
    refine j_aload_n C 0 rfl rfl dX11_gives_12 ?_
    refine j_aload_n C 0 rfl rfl dX11_gives_13 ?_
    refine j_iload_n C 2 rfl rfl dX11_gives_14 ?_
    obtain ⟨q2, hq2, h⟩ := bi_some h
    refine j_callVi (As := [.int v2]) (rest := [.ref (ad 30 0)]) C (c_X11_loose hq2) (cwV 1 C.ts (good_V mw_1211 mw_1213 mw_53 mw_73 mw_1214) rfl rfl rfl (by decide +kernel) ⟨Nat.le_of_ble_eq_true rfl, Nat.le_of_ble_eq_true rfl⟩) (fun H hW => CW.rv C.k hW (by decide) cw_30 rfl) rfl rfl (Nat.le_of_ble_eq_true rfl) dX11_gives_15 ⟨Nat.zero_le _, Nat.zero_le _⟩ ?_
    obtain ⟨q3, hq3, h⟩ := bi_some h
    refine j_callVv (As := [.int q2]) (rest := []) C (c_X11_nulOf hq3) (cwV 1 C.ts (good_V mw_1215 mw_1217 mw_54 mw_73 mw_1218) rfl rfl rfl (by decide +kernel) ⟨Nat.le_of_ble_eq_true rfl, Nat.le_of_ble_eq_true rfl⟩) (fun H hW => CW.rv C.k hW (by decide) cw_30 rfl) rfl rfl (Nat.le_of_ble_eq_true rfl) dX11_gives_18 ⟨Nat.zero_le _, Nat.zero_le _⟩ ?_
    refine j_lconst (v := 0) C (by decide) dX11_gives_21 ?_
    refine j_lstore_n (L' := [(3, .long (0 : Int64)), (0, .ref (ad 30 0)), (1, .int v1), (2, .int v2)]) C rfl (by decide) rfl dX11_gives_22 ?_
    refine j_iconst (v := 0) C (by decide) dX11_gives_23 ?_
    refine j_istore (L' := [(5, .int (0 : Int32)), (3, .long (0 : Int64)), (0, .ref (ad 30 0)), (1, .int v1), (2, .int v2)]) C (by decide) rfl dX11_gives_24 ?_
    exact j_sub [2, 3, 4, 1, 0] rfl (t_X11_gives_26 C ih FU q3 v1 v2 (0 : Int64) (0 : Int32) h)
set_option maxRecDepth 100000 in
set_option maxHeartbeats 4000000 in
theorem t_X11_gives_0 {χ : Mem} {T : Nat → Mem} (C : Cx p s m args meth c cX11_gives 7 RX11 (some .int) COM g) {rr : Mem × Int32} (σ : Mem) (h : f_X11_gives_0 σ = some rr) : JJ p l e rm_X11_gives s m args below meth c 7 g ad (MQ below (PoI g ad χ T (rr.1) rr.2) args s 0 0 (geB g)) χ T σ 0 0 [(0, .ref (ad 30 0))] 0 [] := by
  rw [f_X11_gives_0] at h
  refine j_aload_n C 0 rfl rfl dX11_gives_0 ?_
  obtain ⟨q1, hq1, h⟩ := bi_some h
  refine j_callVi (As := []) (rest := []) C (c_X11_motions hq1) (cwV 0 C.ts (good_V mw_1149 mw_1151 mw_39 mw_73 mw_1152) rfl rfl rfl (by decide +kernel) ⟨Nat.le_of_ble_eq_true rfl, Nat.le_of_ble_eq_true rfl⟩) (fun H hW => CW.rv C.k hW (by decide) cw_30 rfl) rfl rfl (Nat.le_of_ble_eq_true rfl) dX11_gives_1 ⟨Nat.zero_le _, Nat.zero_le _⟩ ?_
  refine j_istore_n (L' := [(1, .int q1.2), (0, .ref (ad 30 0))]) C rfl (by decide) rfl dX11_gives_4 ?_
  refine j_iconst (v := 0) C (by decide) dX11_gives_5 ?_
  refine j_istore_n (L' := [(2, .int (0 : Int32)), (1, .int q1.2), (0, .ref (ad 30 0))]) C rfl (by decide) rfl dX11_gives_6 ?_
  exact j_sub [2, 1, 0] rfl (t_X11_gives_7 C FU q1.1 q1.2 (0 : Int32) h)
set_option maxRecDepth 100000 in
set_option maxHeartbeats 4000000 in
theorem c_X11_gives {l : Launch} {g : Gc} {ad : Nat → Nat → Nat} {χ : Mem} {T : Nat → Mem} {σ : Mem} {rr : Mem × Int32} (h : f_X11_gives σ = some rr) : Met l yX11_gives (WS yX11_gives cX11_gives 7 (some .int)) rm_X11_gives (PreW g ad χ T σ [.ref (ad 30 0)]) (PoI g ad χ T (rr.1) rr.2) 0 0 (geB g) := by
  refine j_metW (by decide) (Nat.le_of_ble_eq_true rfl) fun p e s m below meth c C hname => ?_
  rw [f_X11_gives] at h
  exact j_sub [0] rfl (t_X11_gives_0 C σ h)
set_option maxRecDepth 100000 in
set_option maxHeartbeats 4000000 in
theorem t_X11_could_0 {χ : Mem} {T : Nat → Mem} (C : Cx p s m args meth c cX11_could 1 RX11 (some .int) COM g) {rr : Mem × Int32} (σ : Mem) (h : f_X11_could_0 σ = some rr) : JJ p l e rm_X11_could s m args below meth c 1 g ad (MQ below (PoI g ad χ T (rr.1) rr.2) args s 0 0 (geB g)) χ T σ 0 0 [(0, .ref (ad 30 0))] 0 [] := by
  rw [f_X11_could_0] at h
  refine j_aload_n C 0 rfl rfl dX11_could_0 ?_
  refine j_getG C in_X11 (by decide) cw_30 rfl 0 (by decide) mw_1005 (fun _ h => h) rfl dX11_could_1 ?_
  refine j_iconst (v := 2) C (by decide) dX11_could_4 ?_
  refine j_icmp_lt (tgt := 35) C (by decide) dX11_could_5 (fun hc1 => ?_) (fun hc1 => ?_)
  · replace h := (if_pos hc1).symm.trans h
    refine j_iconst (v := 0) C (by decide) dX11_could_35 ?_
    obtain rfl := Option.some.inj h
    exact j_iret C rfl rfl (Nat.le_refl _) (Nat.le_refl _) dX11_could_36
  · replace h := (if_neg hc1).symm.trans h
    refine j_aload_n C 0 rfl rfl dX11_could_8 ?_
    refine j_iconst (v := 1) C (by decide) dX11_could_9 ?_
    refine j_aload_n C 0 rfl rfl dX11_could_10 ?_
    refine j_getG C in_X11 (by decide) cw_30 rfl 0 (by decide) mw_1005 (fun _ h => h) rfl dX11_could_11 ?_
    refine j_ishl C dX11_could_14 ?_
    refine j_iconst (v := 1) C (by decide) dX11_could_15 ?_
    refine j_isub C dX11_could_16 ?_
    obtain ⟨q2, hq2, h⟩ := bi_some h
    refine j_callVi (As := [.int (((1 : Int32) <<< ((gI σ 0 0) &&& 31)) - (1 : Int32))]) (rest := []) C (c_X11_even hq2) (cwV 1 C.ts (good_V mw_1187 mw_1189 mw_47 mw_73 mw_1190) rfl rfl rfl (by decide +kernel) ⟨Nat.le_of_ble_eq_true rfl, Nat.le_of_ble_eq_true rfl⟩) (fun H hW => CW.rv C.k hW (by decide) cw_30 rfl) rfl rfl (Nat.le_of_ble_eq_true rfl) dX11_could_17 ⟨Nat.zero_le _, Nat.zero_le _⟩ ?_
    refine j_iconst (v := 2) C (by decide) dX11_could_20 ?_
    refine j_aload_n C 0 rfl rfl dX11_could_21 ?_
    refine j_getG C in_X11 (by decide) cw_30 rfl 0 (by decide) mw_1005 (fun _ h => h) rfl dX11_could_22 ?_
    refine j_imul C dX11_could_25 ?_
    refine j_iconst (v := 3) C (by decide) dX11_could_26 ?_
    refine j_isub C dX11_could_27 ?_
    refine j_icmp_ne (tgt := 35) C (by decide) dX11_could_28 (fun hc3 => ?_) (fun hc3 => ?_)
    · replace h := (if_neg hc3).symm.trans h
      refine j_iconst (v := 0) C (by decide) dX11_could_35 ?_
      obtain rfl := Option.some.inj h
      exact j_iret C rfl rfl (Nat.le_refl _) (Nat.le_refl _) dX11_could_36
    · replace h := (if_pos hc3).symm.trans h
      refine j_iconst (v := 1) C (by decide) dX11_could_31 ?_
      refine j_goto (tgt := 36) C (by decide) dX11_could_32 ?_
      obtain rfl := Option.some.inj h
      exact j_iret C rfl rfl (Nat.le_refl _) (Nat.le_refl _) dX11_could_36
set_option maxRecDepth 100000 in
set_option maxHeartbeats 4000000 in
theorem c_X11_could {l : Launch} {g : Gc} {ad : Nat → Nat → Nat} {χ : Mem} {T : Nat → Mem} {σ : Mem} {rr : Mem × Int32} (h : f_X11_could σ = some rr) : Met l yX11_could (WS yX11_could cX11_could 1 (some .int)) rm_X11_could (PreW g ad χ T σ [.ref (ad 30 0)]) (PoI g ad χ T (rr.1) rr.2) 0 0 (geB g) := by
  refine j_metW (by decide) (Nat.le_of_ble_eq_true rfl) fun p e s m below meth c C hname => ?_
  rw [f_X11_could] at h
  exact j_sub [0] rfl (t_X11_could_0 C σ h)
set_option maxRecDepth 100000 in
set_option maxHeartbeats 4000000 in
theorem t_X11_body_24 {χ : Mem} {T : Nat → Mem} (C : Cx p s m args meth c cX11_body 5 RX11 (some .int) COM g) {rr : Mem × Int32} : ∀ (n : Nat) (σ : Mem) (v1 : Int32) (v2 : Int32) (v3 : Int32) (v4 : Int32) (h : f_X11_body_24 n σ v1 v2 v3 v4 = some rr), JJ p l e rm_X11_body s m args below meth c 5 g ad (MQ below (PoI g ad χ T (rr.1) rr.2) args s 0 0 (geB g)) χ T σ 0 0 [(0, .ref (ad 30 0)), (1, .int v1), (2, .int v2), (3, .int v3), (4, .int v4)] 24 [] := by
  intro n
  induction n with
  | zero => intro  σ v1 v2 v3 v4  h; cases h
  | succ n ih =>
  intro  σ v1 v2 v3 v4  h
  rw [f_X11_body_24] at h
  refine j_iload C 4 rfl dX11_body_24 ?_
  refine j_aload_n C 0 rfl rfl dX11_body_26 ?_
  refine j_getG C in_X11 (by decide) cw_30 rfl 0 (by decide) mw_1005 (fun _ h => h) rfl dX11_body_27 ?_
  refine j_icmp_ge (tgt := 67) C (by decide) dX11_body_30 (fun hc1 => ?_) (fun hc1 => ?_)
  · replace h := (if_pos hc1).symm.trans h
    refine j_iconst (v := -1) C (by decide) dX11_body_67 ?_
    obtain rfl := Option.some.inj h
    exact j_iret C rfl rfl (Nat.le_refl _) (Nat.le_refl _) dX11_body_68
  · replace h := (if_neg hc1).symm.trans h
    refine j_iload_n C 2 rfl rfl dX11_body_33 ?_
    refine j_if_lt (tgt := 67) C (by decide) dX11_body_34 (fun hc2 => ?_) (fun hc2 => ?_)
    · replace h := (if_pos hc2).symm.trans h
      refine j_iconst (v := -1) C (by decide) dX11_body_67 ?_
      obtain rfl := Option.some.inj h
      exact j_iret C rfl rfl (Nat.le_refl _) (Nat.le_refl _) dX11_body_68
    · replace h := (if_neg hc2).symm.trans h
      refine j_aload_n C 0 rfl rfl dX11_body_37 ?_
      refine j_getG C in_X11 (by decide) cw_30 rfl 19 (by decide) mw_1024 (fun _ h => h) rfl dX11_body_38 ?_
      refine j_iload_n C 1 rfl rfl dX11_body_41 ?_
      obtain ⟨hg3, h⟩ := gd_some h
      refine j_iald C (by decide) cw_31_19 hg3 dX11_body_42 ?_
      refine j_iload C 4 rfl dX11_body_43 ?_
      refine j_ishr C dX11_body_45 ?_
      refine j_iconst (v := 1) C (by decide) dX11_body_46 ?_
      refine j_iand C dX11_body_47 ?_
      refine j_if_eq (tgt := 61) C (by decide) dX11_body_48 (fun hc4 => ?_) (fun hc4 => ?_)
      · replace h := (if_pos hc4).symm.trans h
        refine j_iinc (v := v4 + (1 : Int32)) (L' := [(4, .int (v4 + (1 : Int32))), (0, .ref (ad 30 0)), (1, .int v1), (2, .int v2), (3, .int v3)]) C 4 rfl rfl (by decide) rfl dX11_body_61 ?_
        refine j_goto (tgt := 24) C (by decide) dX11_body_64 ?_
        exact j_sub [1, 2, 3, 4, 0] rfl (ih σ v1 v2 v3 (v4 + (1 : Int32)) h)
      · replace h := (if_neg hc4).symm.trans h
        refine j_iload_n C 3 rfl rfl dX11_body_51 ?_
        refine j_iinc (v := v3 + (-1 : Int32)) (L' := [(3, .int (v3 + (-1 : Int32))), (0, .ref (ad 30 0)), (1, .int v1), (2, .int v2), (4, .int v4)]) C 3 rfl (congrArg (fun z => v3 + z) (by decide)) (by decide) rfl dX11_body_52 ?_
        refine j_if_ne (tgt := 61) C (by decide) dX11_body_55 (fun hc5 => ?_) (fun hc5 => ?_)
        · replace h := (if_neg hc5).symm.trans h
          refine j_iinc (v := v4 + (1 : Int32)) (L' := [(4, .int (v4 + (1 : Int32))), (3, .int (v3 + (-1 : Int32))), (0, .ref (ad 30 0)), (1, .int v1), (2, .int v2)]) C 4 rfl rfl (by decide) rfl dX11_body_61 ?_
          refine j_goto (tgt := 24) C (by decide) dX11_body_64 ?_
          exact j_sub [2, 3, 4, 1, 0] rfl (ih σ v1 v2 (v3 + (-1 : Int32)) (v4 + (1 : Int32)) h)
        · replace h := (if_pos hc5).symm.trans h
          refine j_iload C 4 rfl dX11_body_58 ?_
          obtain rfl := Option.some.inj h
          exact j_iret C rfl rfl (Nat.le_refl _) (Nat.le_refl _) dX11_body_60
set_option maxRecDepth 100000 in
set_option maxHeartbeats 4000000 in
theorem t_X11_body_0 {χ : Mem} {T : Nat → Mem} (C : Cx p s m args meth c cX11_body 5 RX11 (some .int) COM g) {rr : Mem × Int32} (σ : Mem) (a1 : Int32) (a2 : Int32) (h : f_X11_body_0 σ a1 a2 = some rr) : JJ p l e rm_X11_body s m args below meth c 5 g ad (MQ below (PoI g ad χ T (rr.1) rr.2) args s 0 0 (geB g)) χ T σ 0 0 [(0, .ref (ad 30 0)), (1, .int a1), (2, .int a2)] 0 [] := by
  rw [f_X11_body_0] at h
  refine j_aload_n C 0 rfl rfl dX11_body_0 ?_
  obtain ⟨q1, hq1, h⟩ := bi_some h
  refine j_callVv (As := []) (rest := []) C (c_X11_findBodies hq1) (cwV 0 C.ts (good_V mw_1180 mw_1182 mw_46 mw_73 mw_1183) rfl rfl rfl (by decide +kernel) ⟨Nat.le_of_ble_eq_true rfl, Nat.le_of_ble_eq_true rfl⟩) (fun H hW => CW.rv C.k hW (by decide) cw_30 rfl) rfl rfl (Nat.le_of_ble_eq_true rfl) dX11_body_1 ⟨Nat.zero_le _, Nat.zero_le _⟩ ?_
  refine j_iload_n C 1 rfl rfl dX11_body_4 ?_
  refine j_if_lt (tgt := 16) C (by decide) dX11_body_5 (fun hc2 => ?_) (fun hc2 => ?_)
  · replace h := (if_pos hc2).symm.trans h
    refine j_bipush (v := -2) C (by decide) dX11_body_16 ?_
    obtain rfl := Option.some.inj h
    exact j_iret C rfl rfl (Nat.le_refl _) (Nat.le_refl _) dX11_body_18
  · replace h := (if_neg hc2).symm.trans h
    refine j_iload_n C 1 rfl rfl dX11_body_8 ?_
    refine j_aload_n C 0 rfl rfl dX11_body_9 ?_
    refine j_getG C in_X11 (by decide) cw_30 rfl 18 (by decide) mw_1023 (fun _ h => h) rfl dX11_body_10 ?_
    refine j_icmp_lt (tgt := 19) C (by decide) dX11_body_13 (fun hc3 => ?_) (fun hc3 => ?_)
    · replace h := (if_pos hc3).symm.trans h
      refine j_iload_n C 2 rfl rfl dX11_body_19 ?_
      refine j_istore_n (L' := [(3, .int a2), (0, .ref (ad 30 0)), (1, .int a1), (2, .int a2)]) C rfl (by decide) rfl dX11_body_20 ?_
      refine j_iconst (v := 0) C (by decide) dX11_body_21 ?_
      refine j_istore (L' := [(4, .int (0 : Int32)), (3, .int a2), (0, .ref (ad 30 0)), (1, .int a1), (2, .int a2)]) C (by decide) rfl dX11_body_22 ?_
      exact j_sub [2, 3, 4, 1, 0] rfl (t_X11_body_24 C FU q1 a1 a2 a2 (0 : Int32) h)
    · replace h := (if_neg hc3).symm.trans h
      refine j_bipush (v := -2) C (by decide) dX11_body_16 ?_
      obtain rfl := Option.some.inj h
      exact j_iret C rfl rfl (Nat.le_refl _) (Nat.le_refl _) dX11_body_18
set_option maxRecDepth 100000 in
set_option maxHeartbeats 4000000 in
theorem c_X11_body {l : Launch} {g : Gc} {ad : Nat → Nat → Nat} {χ : Mem} {T : Nat → Mem} {σ : Mem} {a1 : Int32} {a2 : Int32} {rr : Mem × Int32} (h : f_X11_body σ a1 a2 = some rr) : Met l yX11_body (WS yX11_body cX11_body 5 (some .int)) rm_X11_body (PreW g ad χ T σ [.ref (ad 30 0), .int a1, .int a2]) (PoI g ad χ T (rr.1) rr.2) 0 0 (geB g) := by
  refine j_metW (by decide) (Nat.le_of_ble_eq_true rfl) fun p e s m below meth c C hname => ?_
  rw [f_X11_body] at h
  exact j_sub [0, 1, 2] rfl (t_X11_body_0 C σ a1 a2 h)
set_option maxRecDepth 100000 in
set_option maxHeartbeats 4000000 in
theorem t_X11_plan_0 {χ : Mem} {T : Nat → Mem} (C : Cx p s m args meth c cX11_plan 2 RX11 (some .int) COM g) {rr : Mem × Int32} (σ : Mem) (a1 : Int32) (h : f_X11_plan_0 σ a1 = some rr) : JJ p l e rm_X11_plan s m args below meth c 2 g ad (MQ below (PoI g ad χ T (rr.1) rr.2) args s 0 0 (geB g)) χ T σ 0 0 [(0, .ref (ad 30 0)), (1, .int a1)] 0 [] := by
  rw [f_X11_plan_0] at h
  refine j_aload_n C 0 rfl rfl dX11_plan_0 ?_
  obtain ⟨q1, hq1, h⟩ := bi_some h
  refine j_callVv (As := []) (rest := []) C (c_X11_makePlan hq1) (cwV 0 C.ts (good_V mw_1284 mw_1286 mw_58 mw_73 mw_1287) rfl rfl rfl (by decide +kernel) ⟨Nat.le_of_ble_eq_true rfl, Nat.le_of_ble_eq_true rfl⟩) (fun H hW => CW.rv C.k hW (by decide) cw_30 rfl) rfl rfl (Nat.le_of_ble_eq_true rfl) dX11_plan_1 ⟨Nat.zero_le _, Nat.zero_le _⟩ ?_
  refine j_iload_n C 1 rfl rfl dX11_plan_4 ?_
  refine j_if_lt (tgt := 16) C (by decide) dX11_plan_5 (fun hc2 => ?_) (fun hc2 => ?_)
  · replace h := (if_pos hc2).symm.trans h
    refine j_iconst (v := -1) C (by decide) dX11_plan_16 ?_
    refine j_goto (tgt := 26) C (by decide) dX11_plan_17 ?_
    obtain rfl := Option.some.inj h
    exact j_iret C rfl rfl (Nat.le_refl _) (Nat.le_refl _) dX11_plan_26
  · replace h := (if_neg hc2).symm.trans h
    refine j_iload_n C 1 rfl rfl dX11_plan_8 ?_
    refine j_aload_n C 0 rfl rfl dX11_plan_9 ?_
    refine j_getG C in_X11 (by decide) cw_30 rfl 23 (by decide) mw_1028 (fun _ h => h) rfl dX11_plan_10 ?_
    refine j_icmp_lt (tgt := 20) C (by decide) dX11_plan_13 (fun hc3 => ?_) (fun hc3 => ?_)
    · replace h := (if_pos hc3).symm.trans h
      refine j_aload_n C 0 rfl rfl dX11_plan_20 ?_
      refine j_getG C in_X11 (by decide) cw_30 rfl 24 (by decide) mw_1029 (fun _ h => h) rfl dX11_plan_21 ?_
      refine j_iload_n C 1 rfl rfl dX11_plan_24 ?_
      obtain ⟨hg4, h⟩ := gd_some h
      refine j_iald C (by decide) cw_31_24 hg4 dX11_plan_25 ?_
      obtain rfl := Option.some.inj h
      exact j_iret C rfl rfl (Nat.le_refl _) (Nat.le_refl _) dX11_plan_26
    · replace h := (if_neg hc3).symm.trans h
      refine j_iconst (v := -1) C (by decide) dX11_plan_16 ?_
      refine j_goto (tgt := 26) C (by decide) dX11_plan_17 ?_
      obtain rfl := Option.some.inj h
      exact j_iret C rfl rfl (Nat.le_refl _) (Nat.le_refl _) dX11_plan_26
set_option maxRecDepth 100000 in
set_option maxHeartbeats 4000000 in
theorem c_X11_plan {l : Launch} {g : Gc} {ad : Nat → Nat → Nat} {χ : Mem} {T : Nat → Mem} {σ : Mem} {a1 : Int32} {rr : Mem × Int32} (h : f_X11_plan σ a1 = some rr) : Met l yX11_plan (WS yX11_plan cX11_plan 2 (some .int)) rm_X11_plan (PreW g ad χ T σ [.ref (ad 30 0), .int a1]) (PoI g ad χ T (rr.1) rr.2) 0 0 (geB g) := by
  refine j_metW (by decide) (Nat.le_of_ble_eq_true rfl) fun p e s m below meth c C hname => ?_
  rw [f_X11_plan] at h
  exact j_sub [0, 1] rfl (t_X11_plan_0 C σ a1 h)
set_option maxRecDepth 100000 in
set_option maxHeartbeats 4000000 in
theorem t_X11_cheapest_8 {χ : Mem} {T : Nat → Mem} (C : Cx p s m args meth c cX11_cheapest 3 RX11 (some .int) COM g) {rr : Mem × Int32} : ∀ (n : Nat) (σ : Mem) (v1 : Int32) (v2 : Int32) (h : f_X11_cheapest_8 n σ v1 v2 = some rr), JJ p l e rm_X11_cheapest s m args below meth c 3 g ad (MQ below (PoI g ad χ T (rr.1) rr.2) args s 0 0 (geB g)) χ T σ 0 0 [(0, .ref (ad 30 0)), (1, .int v1), (2, .int v2)] 8 [] := by
  intro n
  induction n with
  | zero => intro  σ v1 v2  h; cases h
  | succ n ih =>
  intro  σ v1 v2  h
  rw [f_X11_cheapest_8] at h
  refine j_iload_n C 2 rfl rfl dX11_cheapest_8 ?_
  refine j_aload_n C 0 rfl rfl dX11_cheapest_9 ?_
  refine j_getG C in_X11 (by decide) cw_30 rfl 23 (by decide) mw_1028 (fun _ h => h) rfl dX11_cheapest_10 ?_
  refine j_icmp_ge (tgt := 36) C (by decide) dX11_cheapest_13 (fun hc1 => ?_) (fun hc1 => ?_)
  · replace h := (if_pos hc1).symm.trans h
    refine j_aload_n C 0 rfl rfl dX11_cheapest_36 ?_
    refine j_aload_n C 0 rfl rfl dX11_cheapest_37 ?_
    refine j_getG C in_X11 (by decide) cw_30 rfl 20 (by decide) mw_1025 (fun _ h => h) rfl dX11_cheapest_38 ?_
    obtain ⟨q2, hq2, h⟩ := bi_some h
    refine j_callVi (As := [.ref (ad 31 20)]) (rest := []) C (c_X11_isStiff_taken hq2) (cwV 1 C.ts (good_V mw_1240 mw_1242 mw_55 mw_73 mw_1243) rfl rfl rfl (by decide +kernel) ⟨Nat.le_of_ble_eq_true rfl, Nat.le_of_ble_eq_true rfl⟩) (fun H hW => CW.rv C.k hW (by decide) cw_30 rfl) rfl rfl (Nat.le_of_ble_eq_true rfl) dX11_cheapest_41 ⟨Nat.zero_le _, Nat.zero_le _⟩ ?_
    refine j_if_eq (tgt := 51) C (by decide) dX11_cheapest_44 (fun hc3 => ?_) (fun hc3 => ?_)
    · replace h := (if_pos hc3).symm.trans h
      refine j_iconst (v := -1) C (by decide) dX11_cheapest_51 ?_
      obtain rfl := Option.some.inj h
      exact j_iret C rfl rfl (Nat.le_refl _) (Nat.le_refl _) dX11_cheapest_52
    · replace h := (if_neg hc3).symm.trans h
      refine j_iload_n C 1 rfl rfl dX11_cheapest_47 ?_
      refine j_goto (tgt := 52) C (by decide) dX11_cheapest_48 ?_
      obtain rfl := Option.some.inj h
      exact j_iret C rfl rfl (Nat.le_refl _) (Nat.le_refl _) dX11_cheapest_52
  · replace h := (if_neg hc1).symm.trans h
    refine j_iload_n C 1 rfl rfl dX11_cheapest_16 ?_
    refine j_aload_n C 0 rfl rfl dX11_cheapest_17 ?_
    refine j_getG C in_X11 (by decide) cw_30 rfl 10 (by decide) mw_1015 (fun _ h => h) rfl dX11_cheapest_18 ?_
    refine j_aload_n C 0 rfl rfl dX11_cheapest_21 ?_
    refine j_getG C in_X11 (by decide) cw_30 rfl 24 (by decide) mw_1029 (fun _ h => h) rfl dX11_cheapest_22 ?_
    refine j_iload_n C 2 rfl rfl dX11_cheapest_25 ?_
    obtain ⟨hg4, h⟩ := gd_some h
    refine j_iald C (by decide) cw_31_24 hg4 dX11_cheapest_26 ?_
    obtain ⟨hg5, h⟩ := gd_some h
    refine j_iald C (by decide) cw_31_10 hg5 dX11_cheapest_27 ?_
    refine j_iadd C dX11_cheapest_28 ?_
    refine j_istore_n (L' := [(1, .int (v1 + (gI σ 10 (gI σ 24 v2.toNatClampNeg).toNatClampNeg))), (0, .ref (ad 30 0)), (2, .int v2)]) C rfl (by decide) rfl dX11_cheapest_29 ?_
    refine j_iinc (v := v2 + (1 : Int32)) (L' := [(2, .int (v2 + (1 : Int32))), (1, .int (v1 + (gI σ 10 (gI σ 24 v2.toNatClampNeg).toNatClampNeg))), (0, .ref (ad 30 0))]) C 2 rfl rfl (by decide) rfl dX11_cheapest_30 ?_
    refine j_goto (tgt := 8) C (by decide) dX11_cheapest_33 ?_
    exact j_sub [2, 1, 0] rfl (ih σ (v1 + (gI σ 10 (gI σ 24 v2.toNatClampNeg).toNatClampNeg)) (v2 + (1 : Int32)) h)
set_option maxRecDepth 100000 in
set_option maxHeartbeats 4000000 in
theorem t_X11_cheapest_0 {χ : Mem} {T : Nat → Mem} (C : Cx p s m args meth c cX11_cheapest 3 RX11 (some .int) COM g) {rr : Mem × Int32} (σ : Mem) (h : f_X11_cheapest_0 σ = some rr) : JJ p l e rm_X11_cheapest s m args below meth c 3 g ad (MQ below (PoI g ad χ T (rr.1) rr.2) args s 0 0 (geB g)) χ T σ 0 0 [(0, .ref (ad 30 0))] 0 [] := by
  rw [f_X11_cheapest_0] at h
  refine j_aload_n C 0 rfl rfl dX11_cheapest_0 ?_
  obtain ⟨q1, hq1, h⟩ := bi_some h
  refine j_callVv (As := []) (rest := []) C (c_X11_makePlan hq1) (cwV 0 C.ts (good_V mw_1284 mw_1286 mw_58 mw_73 mw_1287) rfl rfl rfl (by decide +kernel) ⟨Nat.le_of_ble_eq_true rfl, Nat.le_of_ble_eq_true rfl⟩) (fun H hW => CW.rv C.k hW (by decide) cw_30 rfl) rfl rfl (Nat.le_of_ble_eq_true rfl) dX11_cheapest_1 ⟨Nat.zero_le _, Nat.zero_le _⟩ ?_
  refine j_iconst (v := 0) C (by decide) dX11_cheapest_4 ?_
  refine j_istore_n (L' := [(1, .int (0 : Int32)), (0, .ref (ad 30 0))]) C rfl (by decide) rfl dX11_cheapest_5 ?_
  refine j_iconst (v := 0) C (by decide) dX11_cheapest_6 ?_
  refine j_istore_n (L' := [(2, .int (0 : Int32)), (1, .int (0 : Int32)), (0, .ref (ad 30 0))]) C rfl (by decide) rfl dX11_cheapest_7 ?_
  exact j_sub [2, 1, 0] rfl (t_X11_cheapest_8 C FU q1 (0 : Int32) (0 : Int32) h)
set_option maxRecDepth 100000 in
set_option maxHeartbeats 4000000 in
theorem c_X11_cheapest {l : Launch} {g : Gc} {ad : Nat → Nat → Nat} {χ : Mem} {T : Nat → Mem} {σ : Mem} {rr : Mem × Int32} (h : f_X11_cheapest σ = some rr) : Met l yX11_cheapest (WS yX11_cheapest cX11_cheapest 3 (some .int)) rm_X11_cheapest (PreW g ad χ T σ [.ref (ad 30 0)]) (PoI g ad χ T (rr.1) rr.2) 0 0 (geB g) := by
  refine j_metW (by decide) (Nat.le_of_ble_eq_true rfl) fun p e s m below meth c C hname => ?_
  rw [f_X11_cheapest] at h
  exact j_sub [0] rfl (t_X11_cheapest_0 C σ h)
set_option maxRecDepth 100000 in
set_option maxHeartbeats 4000000 in
theorem t_X11_refused_0 {χ : Mem} {T : Nat → Mem} (C : Cx p s m args meth c cX11_refused 2 RX11 (some .int) COM g) {rr : Mem × Int32} (σ : Mem) (a1 : Int32) (h : f_X11_refused_0 σ a1 = some rr) : JJ p l e rm_X11_refused s m args below meth c 2 g ad (MQ below (PoI g ad χ T (rr.1) rr.2) args s 0 0 (geB g)) χ T σ 0 0 [(0, .ref (ad 30 0)), (1, .int a1)] 0 [] := by
  rw [f_X11_refused_0] at h
  refine j_aload_n C 0 rfl rfl dX11_refused_0 ?_
  refine j_iload_n C 1 rfl rfl dX11_refused_1 ?_
  refine j_putI C in_X11 tyX11_ok nmX11 rfl 30 (by decide) (by decide) (po_M_status a1) mw_1035 (fun _ h => h) rfl (tyX11_ok 30 (by decide)) (Nat.le_of_ble_eq_true rfl) dX11_refused_2 ?_
  refine j_iconst (v := -1) C (by decide) dX11_refused_5 ?_
  obtain rfl := Option.some.inj h
  exact j_iret C rfl rfl (Nat.le_refl _) (Nat.le_refl _) dX11_refused_6
set_option maxRecDepth 100000 in
set_option maxHeartbeats 4000000 in
theorem c_X11_refused {l : Launch} {g : Gc} {ad : Nat → Nat → Nat} {χ : Mem} {T : Nat → Mem} {σ : Mem} {a1 : Int32} {rr : Mem × Int32} (h : f_X11_refused σ a1 = some rr) : Met l yX11_refused (WS yX11_refused cX11_refused 2 (some .int)) rm_X11_refused (PreW g ad χ T σ [.ref (ad 30 0), .int a1]) (PoI g ad χ T (rr.1) rr.2) 0 0 (geB g) := by
  refine j_metW (by decide) (Nat.le_of_ble_eq_true rfl) fun p e s m below meth c C hname => ?_
  rw [f_X11_refused] at h
  exact j_sub [0, 1] rfl (t_X11_refused_0 C σ a1 h)
set_option maxRecDepth 100000 in
set_option maxHeartbeats 4000000 in
theorem t_X11_done_0 {χ : Mem} {T : Nat → Mem} (C : Cx p s m args meth c cX11_done 2 RX11 (some .int) COM g) {rr : Mem × Int32} (σ : Mem) (a1 : Int32) (h : f_X11_done_0 σ a1 = some rr) : JJ p l e rm_X11_done s m args below meth c 2 g ad (MQ below (PoI g ad χ T (rr.1) rr.2) args s 0 0 (geB g)) χ T σ 0 0 [(0, .ref (ad 30 0)), (1, .int a1)] 0 [] := by
  rw [f_X11_done_0] at h
  refine j_aload_n C 0 rfl rfl dX11_done_0 ?_
  refine j_iconst (v := 0) C (by decide) dX11_done_1 ?_
  refine j_putI C in_X11 tyX11_ok nmX11 rfl 30 (by decide) (by decide) (po_M_status (0 : Int32)) mw_1035 (fun _ h => h) rfl (tyX11_ok 30 (by decide)) (Nat.le_of_ble_eq_true rfl) dX11_done_2 ?_
  refine j_iload_n C 1 rfl rfl dX11_done_5 ?_
  obtain rfl := Option.some.inj h
  exact j_iret C rfl rfl (Nat.le_refl _) (Nat.le_refl _) dX11_done_6
set_option maxRecDepth 100000 in
set_option maxHeartbeats 4000000 in
theorem c_X11_done {l : Launch} {g : Gc} {ad : Nat → Nat → Nat} {χ : Mem} {T : Nat → Mem} {σ : Mem} {a1 : Int32} {rr : Mem × Int32} (h : f_X11_done σ a1 = some rr) : Met l yX11_done (WS yX11_done cX11_done 2 (some .int)) rm_X11_done (PreW g ad χ T σ [.ref (ad 30 0), .int a1]) (PoI g ad χ T (rr.1) rr.2) 0 0 (geB g) := by
  refine j_metW (by decide) (Nat.le_of_ble_eq_true rfl) fun p e s m below meth c C hname => ?_
  rw [f_X11_done] at h
  exact j_sub [0, 1] rfl (t_X11_done_0 C σ a1 h)
set_option maxRecDepth 100000 in
set_option maxHeartbeats 4000000 in
theorem t_X11_tray_334 {χ : Mem} {T : Nat → Mem} (C : Cx p s m args meth c cX11_tray 7 RX11 (some .int) COM g) {rr : Mem × Int32} (σ : Mem) (h : f_X11_tray_334 σ = some rr) : JJ p l e rm_X11_tray s m args below meth c 7 g ad (MQ below (PoI g ad χ T (rr.1) rr.2) args s 0 0 (geB g)) χ T σ 0 0 [(0, .ref (ad 30 0))] 334 [] := by
  rw [f_X11_tray_334] at h
  refine j_aload_n C 0 rfl rfl dX11_tray_334 ?_
  refine j_iconst (v := 1) C (by decide) dX11_tray_335 ?_
  obtain ⟨q1, hq1, h⟩ := bi_some h
  refine j_callVi (As := [.int (1 : Int32)]) (rest := []) C (c_X11_done hq1) (cwV 1 C.ts (good_V mw_1304 mw_1306 mw_61 mw_73 mw_1307) rfl rfl rfl (by decide +kernel) ⟨Nat.le_of_ble_eq_true rfl, Nat.le_of_ble_eq_true rfl⟩) (fun H hW => CW.rv C.k hW (by decide) cw_30 rfl) rfl rfl (Nat.le_of_ble_eq_true rfl) dX11_tray_336 ⟨Nat.zero_le _, Nat.zero_le _⟩ ?_
  obtain rfl := Option.some.inj h
  exact j_iret C rfl rfl (Nat.le_refl _) (Nat.le_refl _) dX11_tray_339
set_option maxRecDepth 100000 in
set_option maxHeartbeats 4000000 in
theorem t_X11_tray_266 {χ : Mem} {T : Nat → Mem} (C : Cx p s m args meth c cX11_tray 7 RX11 (some .int) COM g) {rr : Mem × Int32} : ∀ (n : Nat) (σ : Mem) (v1 : Int32) (v2 : Int32) (v4 : Int32) (v5 : Int32) (h : f_X11_tray_266 n σ v1 v2 v4 v5 = some rr), JJ p l e rm_X11_tray s m args below meth c 7 g ad (MQ below (PoI g ad χ T (rr.1) rr.2) args s 0 0 (geB g)) χ T σ 0 0 [(0, .ref (ad 30 0)), (1, .int v1), (2, .int v2), (4, .int v4), (5, .int v5)] 266 [] := by
  intro n
  induction n with
  | zero => intro  σ v1 v2 v4 v5  h; cases h
  | succ n ih =>
  intro  σ v1 v2 v4 v5  h
  rw [f_X11_tray_266] at h
  refine j_iload C 4 rfl dX11_tray_266 ?_
  refine j_aload_n C 0 rfl rfl dX11_tray_268 ?_
  refine j_getG C in_X11 (by decide) cw_30 rfl 1 (by decide) mw_1006 (fun _ h => h) rfl dX11_tray_269 ?_
  refine j_icmp_ge (tgt := 331) C (by decide) dX11_tray_272 (fun hc1 => ?_) (fun hc1 => ?_)
  · replace h := (if_pos hc1).symm.trans h
    refine j_goto (tgt := 334) C (by decide) dX11_tray_331 ?_
    exact j_sub [0] rfl (t_X11_tray_334 C σ h)
  · replace h := (if_neg hc1).symm.trans h
    refine j_aload_n C 0 rfl rfl dX11_tray_275 ?_
    refine j_getG C in_X11 (by decide) cw_30 rfl 29 (by decide) mw_1034 (fun _ h => h) rfl dX11_tray_276 ?_
    refine j_iload C 3 rfl dX11_tray_279 ?_
    refine j_aload_n C 0 rfl rfl dX11_tray_281 ?_
    refine j_getG C in_X11 (by decide) cw_30 rfl 26 (by decide) mw_1031 (fun _ h => h) rfl dX11_tray_282 ?_
    refine j_iload_n C 1 rfl rfl dX11_tray_285 ?_
    refine j_dup2 C rfl rfl dX11_tray_286 ?_
    obtain ⟨hg2, h⟩ := gd_some h
    refine j_iald C (by decide) cw_31_26 hg2 dX11_tray_287 ?_
    refine j_dup_x2 C rfl rfl rfl dX11_tray_288 ?_
    refine j_iconst (v := 1) C (by decide) dX11_tray_289 ?_
    refine j_iadd C dX11_tray_290 ?_
    refine j_iastP C (by decide) (po_M_trayN v1.toNatClampNeg ((gI σ 26 v1.toNatClampNeg) + (1 : Int32))) hg2 dX11_tray_291 ?_
    refine j_iadd C dX11_tray_292 ?_
    refine j_iload_n C 2 rfl rfl dX11_tray_293 ?_
    refine j_iconst (v := 3) C (by decide) dX11_tray_294 ?_
    refine j_icmp_ne (tgt := 309) C (by decide) dX11_tray_295 (fun hc3 => ?_) (fun hc3 => ?_)
    · replace h := (if_neg hc3).symm.trans h
      refine j_aload_n C 0 rfl rfl dX11_tray_309 ?_
      refine j_getG C in_X11 (by decide) cw_30 rfl 11 (by decide) mw_1016 (fun _ h => h) rfl dX11_tray_310 ?_
      refine j_iload C 4 rfl dX11_tray_313 ?_
      obtain ⟨hg4, h⟩ := gd_some h
      refine j_zald C (by decide) cw_31_11 hg4 dX11_tray_315 ?_
      refine j_if_eq (tgt := 323) C (by decide) dX11_tray_316 (fun hc5 => ?_) (fun hc5 => ?_)
      · replace h := (if_pos hc5).symm.trans h
        refine j_lconst (v := 0) C (by decide) dX11_tray_323 ?_
        obtain ⟨hg6, h⟩ := gd_some h
        refine j_lastP C (by decide) (po_M_cell ((v4 + (gI σ 26 v1.toNatClampNeg)).toNatClampNeg) (0 : Int64)) hg6 dX11_tray_324 ?_
        refine j_iinc (v := v5 + (1 : Int32)) (L' := [(5, .int (v5 + (1 : Int32))), (0, .ref (ad 30 0)), (1, .int v1), (2, .int v2), (4, .int v4)]) C 4 rfl rfl (by decide) rfl dX11_tray_325 ?_
        refine j_goto (tgt := 266) C (by decide) dX11_tray_328 ?_
        exact j_sub [1, 2, 3, 4, 0] rfl (ih (wL (wI σ 26 v1.toNatClampNeg ((gI σ 26 v1.toNatClampNeg) + (1 : Int32))) 29 ((v4 + (gI σ 26 v1.toNatClampNeg)).toNatClampNeg) (0 : Int64)) v1 v2 v4 (v5 + (1 : Int32)) h)
      · replace h := (if_neg hc5).symm.trans h
        refine j_lconst (v := 1) C (by decide) dX11_tray_319 ?_
        refine j_goto (tgt := 324) C (by decide) dX11_tray_320 ?_
        obtain ⟨hg7, h⟩ := gd_some h
        refine j_lastP C (by decide) (po_M_cell ((v4 + (gI σ 26 v1.toNatClampNeg)).toNatClampNeg) (1 : Int64)) hg7 dX11_tray_324 ?_
        refine j_iinc (v := v5 + (1 : Int32)) (L' := [(5, .int (v5 + (1 : Int32))), (0, .ref (ad 30 0)), (1, .int v1), (2, .int v2), (4, .int v4)]) C 4 rfl rfl (by decide) rfl dX11_tray_325 ?_
        refine j_goto (tgt := 266) C (by decide) dX11_tray_328 ?_
        exact j_sub [1, 2, 3, 4, 0] rfl (ih (wL (wI σ 26 v1.toNatClampNeg ((gI σ 26 v1.toNatClampNeg) + (1 : Int32))) 29 ((v4 + (gI σ 26 v1.toNatClampNeg)).toNatClampNeg) (1 : Int64)) v1 v2 v4 (v5 + (1 : Int32)) h)
    · replace h := (if_pos hc3).symm.trans h
      refine j_aload_n C 0 rfl rfl dX11_tray_298 ?_
      refine j_getG C in_X11 (by decide) cw_30 rfl 10 (by decide) mw_1015 (fun _ h => h) rfl dX11_tray_299 ?_
      refine j_iload C 4 rfl dX11_tray_302 ?_
      obtain ⟨hg8, h⟩ := gd_some h
      refine j_iald C (by decide) cw_31_10 hg8 dX11_tray_304 ?_
      refine j_i2l C dX11_tray_305 ?_
      refine j_goto (tgt := 324) C (by decide) dX11_tray_306 ?_
      obtain ⟨hg9, h⟩ := gd_some h
      refine j_lastP C (by decide) (po_M_cell ((v4 + (gI σ 26 v1.toNatClampNeg)).toNatClampNeg) ((gI (wI σ 26 v1.toNatClampNeg ((gI σ 26 v1.toNatClampNeg) + (1 : Int32))) 10 v5.toNatClampNeg).toInt64)) hg9 dX11_tray_324 ?_
      refine j_iinc (v := v5 + (1 : Int32)) (L' := [(5, .int (v5 + (1 : Int32))), (0, .ref (ad 30 0)), (1, .int v1), (2, .int v2), (4, .int v4)]) C 4 rfl rfl (by decide) rfl dX11_tray_325 ?_
      refine j_goto (tgt := 266) C (by decide) dX11_tray_328 ?_
      exact j_sub [1, 2, 3, 4, 0] rfl (ih (wL (wI σ 26 v1.toNatClampNeg ((gI σ 26 v1.toNatClampNeg) + (1 : Int32))) 29 ((v4 + (gI σ 26 v1.toNatClampNeg)).toNatClampNeg) ((gI (wI σ 26 v1.toNatClampNeg ((gI σ 26 v1.toNatClampNeg) + (1 : Int32))) 10 v5.toNatClampNeg).toInt64)) v1 v2 v4 (v5 + (1 : Int32)) h)
set_option maxRecDepth 100000 in
set_option maxHeartbeats 4000000 in
theorem t_X11_tray_215 {χ : Mem} {T : Nat → Mem} (C : Cx p s m args meth c cX11_tray 7 RX11 (some .int) COM g) {rr : Mem × Int32} {k163 : Mem → Int32 → Int32 → Int32 → Option (Mem × Int32)} (hk163 : ∀ (σ : Mem) (v1 : Int32) (v4 : Int32) (v5 : Int32) , k163 σ v1 v4 v5 = some rr → JJ p l e rm_X11_tray s m args below meth c 7 g ad (MQ below (PoI g ad χ T (rr.1) rr.2) args s 0 0 (geB g)) χ T σ 0 0 [(0, .ref (ad 30 0)), (1, .int v1), (4, .int v4), (5, .int v5)] 163 []) (σ : Mem) (v1 : Int32) (v4 : Int32) (v5 : Int32) (v6 : Int32) (s0 : Int64) (s1 : Int32) (h : f_X11_tray_215 k163 σ v1 v4 v5 v6 s0 s1 = some rr) : JJ p l e rm_X11_tray s m args below meth c 7 g ad (MQ below (PoI g ad χ T (rr.1) rr.2) args s 0 0 (geB g)) χ T σ 0 0 [(0, .ref (ad 30 0)), (1, .int v1), (4, .int v4), (5, .int v5), (6, .int v6)] 215 [.long s0, .int s1, .ref (ad 31 29)] := by
  rw [f_X11_tray_215] at h
  obtain ⟨hg1, h⟩ := gd_some h
  refine j_lastP C (by decide) (po_M_cell s1.toNatClampNeg s0) hg1 dX11_tray_215 ?_
  refine j_aload_n C 0 rfl rfl dX11_tray_216 ?_
  refine j_getG C in_X11 (by decide) cw_30 rfl 29 (by decide) mw_1034 (fun _ h => h) rfl dX11_tray_217 ?_
  refine j_iload C 2 rfl dX11_tray_220 ?_
  refine j_aload_n C 0 rfl rfl dX11_tray_222 ?_
  refine j_getG C in_X11 (by decide) cw_30 rfl 26 (by decide) mw_1031 (fun _ h => h) rfl dX11_tray_223 ?_
  refine j_iload_n C 1 rfl rfl dX11_tray_226 ?_
  refine j_dup2 C rfl rfl dX11_tray_227 ?_
  obtain ⟨hg2, h⟩ := gd_some h
  refine j_iald C (by decide) cw_31_26 hg2 dX11_tray_228 ?_
  refine j_dup_x2 C rfl rfl rfl dX11_tray_229 ?_
  refine j_iconst (v := 1) C (by decide) dX11_tray_230 ?_
  refine j_iadd C dX11_tray_231 ?_
  refine j_iastP C (by decide) (po_M_trayN v1.toNatClampNeg ((gI (wL σ 29 s1.toNatClampNeg s0) 26 v1.toNatClampNeg) + (1 : Int32))) hg2 dX11_tray_232 ?_
  refine j_iadd C dX11_tray_233 ?_
  refine j_iload C 4 rfl dX11_tray_234 ?_
  refine j_iconst (v := -1) C (by decide) dX11_tray_236 ?_
  refine j_icmp_ne (tgt := 244) C (by decide) dX11_tray_237 (fun hc3 => ?_) (fun hc3 => ?_)
  · replace h := (if_neg hc3).symm.trans h
    refine j_aload_n C 0 rfl rfl dX11_tray_244 ?_
    refine j_getG C in_X11 (by decide) cw_30 rfl 16 (by decide) mw_1021 (fun _ h => h) rfl dX11_tray_245 ?_
    refine j_iload C 4 rfl dX11_tray_248 ?_
    refine j_iconst (v := 1) C (by decide) dX11_tray_250 ?_
    refine j_iadd C dX11_tray_251 ?_
    obtain ⟨hg4, h⟩ := gd_some h
    refine j_lald C (by decide) cw_31_16 hg4 dX11_tray_252 ?_
    obtain ⟨hg5, h⟩ := gd_some h
    refine j_lastP C (by decide) (po_M_cell ((v4 + (gI (wL σ 29 s1.toNatClampNeg s0) 26 v1.toNatClampNeg)).toNatClampNeg) (gL (wI (wL σ 29 s1.toNatClampNeg s0) 26 v1.toNatClampNeg ((gI (wL σ 29 s1.toNatClampNeg s0) 26 v1.toNatClampNeg) + (1 : Int32))) 16 (v6 + (1 : Int32)).toNatClampNeg)) hg5 dX11_tray_253 ?_
    refine j_iinc (v := v5 + (1 : Int32)) (L' := [(5, .int (v5 + (1 : Int32))), (0, .ref (ad 30 0)), (1, .int v1), (4, .int v4), (6, .int v6)]) C 3 rfl rfl (by decide) rfl dX11_tray_254 ?_
    refine j_goto (tgt := 163) C (by decide) dX11_tray_257 ?_
    exact j_sub [1, 2, 3, 0] rfl (hk163 (wL (wI (wL σ 29 s1.toNatClampNeg s0) 26 v1.toNatClampNeg ((gI (wL σ 29 s1.toNatClampNeg s0) 26 v1.toNatClampNeg) + (1 : Int32))) 29 ((v4 + (gI (wL σ 29 s1.toNatClampNeg s0) 26 v1.toNatClampNeg)).toNatClampNeg) (gL (wI (wL σ 29 s1.toNatClampNeg s0) 26 v1.toNatClampNeg ((gI (wL σ 29 s1.toNatClampNeg s0) 26 v1.toNatClampNeg) + (1 : Int32))) 16 (v6 + (1 : Int32)).toNatClampNeg)) v1 v4 (v5 + (1 : Int32)) h)
  · replace h := (if_pos hc3).symm.trans h
    refine j_lconst (v := 0) C (by decide) dX11_tray_240 ?_
    refine j_goto (tgt := 253) C (by decide) dX11_tray_241 ?_
    obtain ⟨hg6, h⟩ := gd_some h
    refine j_lastP C (by decide) (po_M_cell ((v4 + (gI (wL σ 29 s1.toNatClampNeg s0) 26 v1.toNatClampNeg)).toNatClampNeg) (0 : Int64)) hg6 dX11_tray_253 ?_
    refine j_iinc (v := v5 + (1 : Int32)) (L' := [(5, .int (v5 + (1 : Int32))), (0, .ref (ad 30 0)), (1, .int v1), (4, .int v4), (6, .int v6)]) C 3 rfl rfl (by decide) rfl dX11_tray_254 ?_
    refine j_goto (tgt := 163) C (by decide) dX11_tray_257 ?_
    exact j_sub [1, 2, 3, 0] rfl (hk163 (wL (wI (wL σ 29 s1.toNatClampNeg s0) 26 v1.toNatClampNeg ((gI (wL σ 29 s1.toNatClampNeg s0) 26 v1.toNatClampNeg) + (1 : Int32))) 29 ((v4 + (gI (wL σ 29 s1.toNatClampNeg s0) 26 v1.toNatClampNeg)).toNatClampNeg) (0 : Int64)) v1 v4 (v5 + (1 : Int32)) h)
set_option maxRecDepth 100000 in
set_option maxHeartbeats 4000000 in
theorem t_X11_tray_163 {χ : Mem} {T : Nat → Mem} (C : Cx p s m args meth c cX11_tray 7 RX11 (some .int) COM g) {rr : Mem × Int32} : ∀ (n : Nat) (σ : Mem) (v1 : Int32) (v4 : Int32) (v5 : Int32) (h : f_X11_tray_163 n σ v1 v4 v5 = some rr), JJ p l e rm_X11_tray s m args below meth c 7 g ad (MQ below (PoI g ad χ T (rr.1) rr.2) args s 0 0 (geB g)) χ T σ 0 0 [(0, .ref (ad 30 0)), (1, .int v1), (4, .int v4), (5, .int v5)] 163 [] := by
  intro n
  induction n with
  | zero => intro  σ v1 v4 v5  h; cases h
  | succ n ih =>
  intro  σ v1 v4 v5  h
  rw [f_X11_tray_163] at h
  refine j_iload C 3 rfl dX11_tray_163 ?_
  refine j_aload_n C 0 rfl rfl dX11_tray_165 ?_
  refine j_getG C in_X11 (by decide) cw_30 rfl 0 (by decide) mw_1005 (fun _ h => h) rfl dX11_tray_166 ?_
  refine j_icmp_ge (tgt := 260) C (by decide) dX11_tray_169 (fun hc1 => ?_) (fun hc1 => ?_)
  · replace h := (if_pos hc1).symm.trans h
    refine j_goto (tgt := 334) C (by decide) dX11_tray_260 ?_
    exact j_sub [0] rfl (t_X11_tray_334 C σ h)
  · replace h := (if_neg hc1).symm.trans h
    refine j_aload_n C 0 rfl rfl dX11_tray_172 ?_
    refine j_iload C 3 rfl dX11_tray_173 ?_
    obtain ⟨q2, hq2, h⟩ := bi_some h
    refine j_callVi (As := [.int v5]) (rest := []) C (c_X11_freeColumn hq2) (cwV 1 C.ts (good_V mw_1161 mw_1163 mw_42 mw_73 mw_1164) rfl rfl rfl (by decide +kernel) ⟨Nat.le_of_ble_eq_true rfl, Nat.le_of_ble_eq_true rfl⟩) (fun H hW => CW.rv C.k hW (by decide) cw_30 rfl) rfl rfl (Nat.le_of_ble_eq_true rfl) dX11_tray_175 ⟨Nat.zero_le _, Nat.zero_le _⟩ ?_
    refine j_istore (L' := [(6, .int q2), (0, .ref (ad 30 0)), (1, .int v1), (4, .int v4), (5, .int v5)]) C (by decide) rfl dX11_tray_178 ?_
    refine j_aload_n C 1 rfl rfl dX11_tray_180 ?_
    refine j_getG C in_X11 (by decide) cw_30 rfl 29 (by decide) mw_1034 (fun _ h => h) rfl dX11_tray_181 ?_
    refine j_iload C 3 rfl dX11_tray_184 ?_
    refine j_aload_n C 1 rfl rfl dX11_tray_186 ?_
    refine j_getG C in_X11 (by decide) cw_30 rfl 26 (by decide) mw_1031 (fun _ h => h) rfl dX11_tray_187 ?_
    refine j_iload_n C 2 rfl rfl dX11_tray_190 ?_
    refine j_dup2 C rfl rfl dX11_tray_191 ?_
    obtain ⟨hg3, h⟩ := gd_some h
    refine j_iald C (by decide) cw_31_26 hg3 dX11_tray_192 ?_
    refine j_dup_x2 C rfl rfl rfl dX11_tray_193 ?_
    refine j_iconst (v := 1) C (by decide) dX11_tray_194 ?_
    refine j_iadd C dX11_tray_195 ?_
    refine j_iastP C (by decide) (po_M_trayN v1.toNatClampNeg ((gI σ 26 v1.toNatClampNeg) + (1 : Int32))) hg3 dX11_tray_196 ?_
    refine j_iadd C dX11_tray_197 ?_
    refine j_iload C 0 rfl dX11_tray_198 ?_
    refine j_iconst (v := -1) C (by decide) dX11_tray_200 ?_
    refine j_icmp_ne (tgt := 208) C (by decide) dX11_tray_201 (fun hc4 => ?_) (fun hc4 => ?_)
    · replace h := (if_neg hc4).symm.trans h
      refine j_aload_n C 1 rfl rfl dX11_tray_208 ?_
      refine j_getG C in_X11 (by decide) cw_30 rfl 16 (by decide) mw_1021 (fun _ h => h) rfl dX11_tray_209 ?_
      refine j_iload C 0 rfl dX11_tray_212 ?_
      obtain ⟨hg5, h⟩ := gd_some h
      refine j_lald C (by decide) cw_31_16 hg5 dX11_tray_214 ?_
      exact j_sub [1, 2, 3, 4, 0] rfl (t_X11_tray_215 C ih (wI σ 26 v1.toNatClampNeg ((gI σ 26 v1.toNatClampNeg) + (1 : Int32))) v1 v4 v5 q2 (gL (wI σ 26 v1.toNatClampNeg ((gI σ 26 v1.toNatClampNeg) + (1 : Int32))) 16 q2.toNatClampNeg) (v4 + (gI σ 26 v1.toNatClampNeg)) h)
    · replace h := (if_pos hc4).symm.trans h
      refine j_lconst (v := 0) C (by decide) dX11_tray_204 ?_
      refine j_goto (tgt := 215) C (by decide) dX11_tray_205 ?_
      exact j_sub [1, 2, 3, 4, 0] rfl (t_X11_tray_215 C ih (wI σ 26 v1.toNatClampNeg ((gI σ 26 v1.toNatClampNeg) + (1 : Int32))) v1 v4 v5 q2 (0 : Int64) (v4 + (gI σ 26 v1.toNatClampNeg)) h)
set_option maxRecDepth 100000 in
set_option maxHeartbeats 4000000 in
theorem t_X11_tray_60 {χ : Mem} {T : Nat → Mem} (C : Cx p s m args meth c cX11_tray 7 RX11 (some .int) COM g) {rr : Mem × Int32} (σ : Mem) (v1 : Int32) (v2 : Int32) (v3 : Int32) (h : f_X11_tray_60 σ v1 v2 v3 = some rr) : JJ p l e rm_X11_tray s m args below meth c 7 g ad (MQ below (PoI g ad χ T (rr.1) rr.2) args s 0 0 (geB g)) χ T σ 0 0 [(0, .ref (ad 30 0)), (1, .int v1), (2, .int v2), (3, .int v3)] 60 [] := by
  rw [f_X11_tray_60] at h
  refine j_aload_n C 0 rfl rfl dX11_tray_60 ?_
  refine j_getG C in_X11 (by decide) cw_30 rfl 25 (by decide) mw_1030 (fun _ h => h) rfl dX11_tray_61 ?_
  refine j_iload_n C 1 rfl rfl dX11_tray_64 ?_
  refine j_iload_n C 2 rfl rfl dX11_tray_65 ?_
  obtain ⟨hg1, h⟩ := gd_some h
  refine j_iastP C (by decide) (po_M_tray v1.toNatClampNeg v2) hg1 dX11_tray_66 ?_
  refine j_aload_n C 0 rfl rfl dX11_tray_67 ?_
  refine j_getG C in_X11 (by decide) cw_30 rfl 26 (by decide) mw_1031 (fun _ h => h) rfl dX11_tray_68 ?_
  refine j_iload_n C 1 rfl rfl dX11_tray_71 ?_
  refine j_iconst (v := 0) C (by decide) dX11_tray_72 ?_
  refine j_iastP C (by decide) (po_M_trayN v1.toNatClampNeg (0 : Int32)) hg1 dX11_tray_73 ?_
  refine j_bipush (v := 16) C (by decide) dX11_tray_74 ?_
  refine j_iload_n C 1 rfl rfl dX11_tray_76 ?_
  refine j_imul C dX11_tray_77 ?_
  refine j_istore (L' := [(4, .int ((16 : Int32) * v1)), (0, .ref (ad 30 0)), (1, .int v1), (2, .int v2), (3, .int v3)]) C (by decide) rfl dX11_tray_78 ?_
  refine j_iload_n C 3 rfl rfl dX11_tray_80 ?_
  by_cases hs2 : v2.toInt < 1 ∨ 4 < v2.toInt
  · replace h := (if_pos hs2).symm.trans h
    refine j_tableOut (tgt := 334) C hs2 (by decide) dX11_tray_81 ?_
    exact j_sub [1] rfl (t_X11_tray_334 C (wI (wI σ 25 v1.toNatClampNeg v2) 26 v1.toNatClampNeg (0 : Int32)) h)
  · replace h := (if_neg hs2).symm.trans h
    by_cases hx3 : v2 = (1 : Int32)
    · replace h := (if_pos hx3).symm.trans h
      refine j_tableIn (off := 31) (tgt := 112) C (fun q => hs2 (Or.inl q)) (fun q => hs2 (Or.inr q)) (by rw [hx3]; rfl) (by decide) dX11_tray_81 ?_
      refine j_aload_n C 1 rfl rfl dX11_tray_112 ?_
      refine j_getG C in_X11 (by decide) cw_30 rfl 27 (by decide) mw_1032 (fun _ h => h) rfl dX11_tray_113 ?_
      refine j_iload_n C 2 rfl rfl dX11_tray_116 ?_
      refine j_aload_n C 1 rfl rfl dX11_tray_117 ?_
      refine j_getG C in_X11 (by decide) cw_30 rfl 7 (by decide) mw_1012 (fun _ h => h) rfl dX11_tray_118 ?_
      refine j_iload_n C 4 rfl rfl dX11_tray_121 ?_
      obtain ⟨hg4, h⟩ := gd_some h
      refine j_iald C (by decide) cw_31_7 hg4 dX11_tray_122 ?_
      refine j_iastP C (by decide) (po_M_trayKind v1.toNatClampNeg (gI (wI (wI σ 25 v1.toNatClampNeg v2) 26 v1.toNatClampNeg (0 : Int32)) 7 v3.toNatClampNeg)) hg1 dX11_tray_123 ?_
      refine j_aload_n C 1 rfl rfl dX11_tray_124 ?_
      refine j_getG C in_X11 (by decide) cw_30 rfl 28 (by decide) mw_1033 (fun _ h => h) rfl dX11_tray_125 ?_
      refine j_iload_n C 2 rfl rfl dX11_tray_128 ?_
      refine j_aload_n C 1 rfl rfl dX11_tray_129 ?_
      refine j_getG C in_X11 (by decide) cw_30 rfl 8 (by decide) mw_1013 (fun _ h => h) rfl dX11_tray_130 ?_
      refine j_iload_n C 4 rfl rfl dX11_tray_133 ?_
      refine j_iald C (by decide) cw_31_8 hg4 dX11_tray_134 ?_
      refine j_iastP C (by decide) (po_M_trayFirst v1.toNatClampNeg (gI (wI (wI (wI σ 25 v1.toNatClampNeg v2) 26 v1.toNatClampNeg (0 : Int32)) 27 v1.toNatClampNeg (gI (wI (wI σ 25 v1.toNatClampNeg v2) 26 v1.toNatClampNeg (0 : Int32)) 7 v3.toNatClampNeg)) 8 v3.toNatClampNeg)) hg1 dX11_tray_135 ?_
      refine j_aload_n C 1 rfl rfl dX11_tray_136 ?_
      refine j_getG C in_X11 (by decide) cw_30 rfl 26 (by decide) mw_1031 (fun _ h => h) rfl dX11_tray_137 ?_
      refine j_iload_n C 2 rfl rfl dX11_tray_140 ?_
      refine j_aload_n C 1 rfl rfl dX11_tray_141 ?_
      refine j_getG C in_X11 (by decide) cw_30 rfl 10 (by decide) mw_1015 (fun _ h => h) rfl dX11_tray_142 ?_
      refine j_iload_n C 4 rfl rfl dX11_tray_145 ?_
      refine j_iald C (by decide) cw_31_10 hg4 dX11_tray_146 ?_
      refine j_iastP C (by decide) (po_M_trayN v1.toNatClampNeg (gI (wI (wI (wI (wI σ 25 v1.toNatClampNeg v2) 26 v1.toNatClampNeg (0 : Int32)) 27 v1.toNatClampNeg (gI (wI (wI σ 25 v1.toNatClampNeg v2) 26 v1.toNatClampNeg (0 : Int32)) 7 v3.toNatClampNeg)) 28 v1.toNatClampNeg (gI (wI (wI (wI σ 25 v1.toNatClampNeg v2) 26 v1.toNatClampNeg (0 : Int32)) 27 v1.toNatClampNeg (gI (wI (wI σ 25 v1.toNatClampNeg v2) 26 v1.toNatClampNeg (0 : Int32)) 7 v3.toNatClampNeg)) 8 v3.toNatClampNeg)) 10 v3.toNatClampNeg)) hg1 dX11_tray_147 ?_
      refine j_goto (tgt := 334) C (by decide) dX11_tray_148 ?_
      exact j_sub [1] rfl (t_X11_tray_334 C (wI (wI (wI (wI (wI σ 25 v1.toNatClampNeg v2) 26 v1.toNatClampNeg (0 : Int32)) 27 v1.toNatClampNeg (gI (wI (wI σ 25 v1.toNatClampNeg v2) 26 v1.toNatClampNeg (0 : Int32)) 7 v3.toNatClampNeg)) 28 v1.toNatClampNeg (gI (wI (wI (wI σ 25 v1.toNatClampNeg v2) 26 v1.toNatClampNeg (0 : Int32)) 27 v1.toNatClampNeg (gI (wI (wI σ 25 v1.toNatClampNeg v2) 26 v1.toNatClampNeg (0 : Int32)) 7 v3.toNatClampNeg)) 8 v3.toNatClampNeg)) 26 v1.toNatClampNeg (gI (wI (wI (wI (wI σ 25 v1.toNatClampNeg v2) 26 v1.toNatClampNeg (0 : Int32)) 27 v1.toNatClampNeg (gI (wI (wI σ 25 v1.toNatClampNeg v2) 26 v1.toNatClampNeg (0 : Int32)) 7 v3.toNatClampNeg)) 28 v1.toNatClampNeg (gI (wI (wI (wI σ 25 v1.toNatClampNeg v2) 26 v1.toNatClampNeg (0 : Int32)) 27 v1.toNatClampNeg (gI (wI (wI σ 25 v1.toNatClampNeg v2) 26 v1.toNatClampNeg (0 : Int32)) 7 v3.toNatClampNeg)) 8 v3.toNatClampNeg)) 10 v3.toNatClampNeg)) h)
    · replace h := (if_neg hx3).symm.trans h
      by_cases hx5 : v2 = (2 : Int32)
      · replace h := (if_pos hx5).symm.trans h
        refine j_tableIn (off := 70) (tgt := 151) C (fun q => hs2 (Or.inl q)) (fun q => hs2 (Or.inr q)) (by rw [hx5]; rfl) (by decide) dX11_tray_81 ?_
        refine j_aload_n C 1 rfl rfl dX11_tray_151 ?_
        refine j_aload_n C 1 rfl rfl dX11_tray_152 ?_
        refine j_iload_n C 4 rfl rfl dX11_tray_153 ?_
        obtain ⟨q6, hq6, h⟩ := bi_some h
        refine j_callVi (As := [.int v3]) (rest := [.ref (ad 30 0)]) C (c_X11_loose hq6) (cwV 1 C.ts (good_V mw_1211 mw_1213 mw_53 mw_73 mw_1214) rfl rfl rfl (by decide +kernel) ⟨Nat.le_of_ble_eq_true rfl, Nat.le_of_ble_eq_true rfl⟩) (fun H hW => CW.rv C.k hW (by decide) cw_30 rfl) rfl rfl (Nat.le_of_ble_eq_true rfl) dX11_tray_154 ⟨Nat.zero_le _, Nat.zero_le _⟩ ?_
        obtain ⟨q7, hq7, h⟩ := bi_some h
        refine j_callVv (As := [.int q6]) (rest := []) C (c_X11_nulOf hq7) (cwV 1 C.ts (good_V mw_1215 mw_1217 mw_54 mw_73 mw_1218) rfl rfl rfl (by decide +kernel) ⟨Nat.le_of_ble_eq_true rfl, Nat.le_of_ble_eq_true rfl⟩) (fun H hW => CW.rv C.k hW (by decide) cw_30 rfl) rfl rfl (Nat.le_of_ble_eq_true rfl) dX11_tray_157 ⟨Nat.zero_le _, Nat.zero_le _⟩ ?_
        refine j_iconst (v := 0) C (by decide) dX11_tray_160 ?_
        refine j_istore (L' := [(5, .int (0 : Int32)), (4, .int ((16 : Int32) * v1)), (0, .ref (ad 30 0)), (1, .int v1), (2, .int v2), (3, .int v3)]) C (by decide) rfl dX11_tray_161 ?_
        exact j_sub [2, 3, 1, 0] rfl (t_X11_tray_163 C FU q7 v1 ((16 : Int32) * v1) (0 : Int32) h)
      · replace h := (if_neg hx5).symm.trans h
        by_cases hx8 : v2 = (3 : Int32)
        · replace h := (if_pos hx8).symm.trans h
          refine j_tableIn (off := 182) (tgt := 263) C (fun q => hs2 (Or.inl q)) (fun q => hs2 (Or.inr q)) (by rw [hx8]; rfl) (by decide) dX11_tray_81 ?_
          refine j_iconst (v := 0) C (by decide) dX11_tray_263 ?_
          refine j_istore (L' := [(5, .int (0 : Int32)), (4, .int ((16 : Int32) * v1)), (0, .ref (ad 30 0)), (1, .int v1), (2, .int v2), (3, .int v3)]) C (by decide) rfl dX11_tray_264 ?_
          exact j_sub [2, 3, 4, 1, 0] rfl (t_X11_tray_266 C FU (wI (wI σ 25 v1.toNatClampNeg v2) 26 v1.toNatClampNeg (0 : Int32)) v1 v2 ((16 : Int32) * v1) (0 : Int32) h)
        · replace h := (if_neg hx8).symm.trans h
          by_cases hx9 : v2 = (4 : Int32)
          · replace h := (if_pos hx9).symm.trans h
            refine j_tableIn (off := 182) (tgt := 263) C (fun q => hs2 (Or.inl q)) (fun q => hs2 (Or.inr q)) (by rw [hx9]; rfl) (by decide) dX11_tray_81 ?_
            refine j_iconst (v := 0) C (by decide) dX11_tray_263 ?_
            refine j_istore (L' := [(5, .int (0 : Int32)), (4, .int ((16 : Int32) * v1)), (0, .ref (ad 30 0)), (1, .int v1), (2, .int v2), (3, .int v3)]) C (by decide) rfl dX11_tray_264 ?_
            exact j_sub [2, 3, 4, 1, 0] rfl (t_X11_tray_266 C FU (wI (wI σ 25 v1.toNatClampNeg v2) 26 v1.toNatClampNeg (0 : Int32)) v1 v2 ((16 : Int32) * v1) (0 : Int32) h)
          · replace h := (if_neg hx9).symm.trans h
            cases h
set_option maxRecDepth 100000 in
set_option maxHeartbeats 4000000 in
theorem t_X11_tray_54 {χ : Mem} {T : Nat → Mem} (C : Cx p s m args meth c cX11_tray 7 RX11 (some .int) COM g) {rr : Mem × Int32} (σ : Mem) (h : f_X11_tray_54 σ = some rr) : JJ p l e rm_X11_tray s m args below meth c 7 g ad (MQ below (PoI g ad χ T (rr.1) rr.2) args s 0 0 (geB g)) χ T σ 0 0 [(0, .ref (ad 30 0))] 54 [] := by
  rw [f_X11_tray_54] at h
  refine j_aload_n C 0 rfl rfl dX11_tray_54 ?_
  refine j_iconst (v := 1) C (by decide) dX11_tray_55 ?_
  obtain ⟨q1, hq1, h⟩ := bi_some h
  refine j_callVi (As := [.int (1 : Int32)]) (rest := []) C (c_X11_refused hq1) (cwV 1 C.ts (good_V mw_1300 mw_1302 mw_60 mw_73 mw_1303) rfl rfl rfl (by decide +kernel) ⟨Nat.le_of_ble_eq_true rfl, Nat.le_of_ble_eq_true rfl⟩) (fun H hW => CW.rv C.k hW (by decide) cw_30 rfl) rfl rfl (Nat.le_of_ble_eq_true rfl) dX11_tray_56 ⟨Nat.zero_le _, Nat.zero_le _⟩ ?_
  obtain rfl := Option.some.inj h
  exact j_iret C rfl rfl (Nat.le_refl _) (Nat.le_refl _) dX11_tray_59
set_option maxRecDepth 100000 in
set_option maxHeartbeats 4000000 in
theorem t_X11_tray_37 {χ : Mem} {T : Nat → Mem} (C : Cx p s m args meth c cX11_tray 7 RX11 (some .int) COM g) {rr : Mem × Int32} (σ : Mem) (v1 : Int32) (v2 : Int32) (v3 : Int32) (h : f_X11_tray_37 σ v1 v2 v3 = some rr) : JJ p l e rm_X11_tray s m args below meth c 7 g ad (MQ below (PoI g ad χ T (rr.1) rr.2) args s 0 0 (geB g)) χ T σ 0 0 [(0, .ref (ad 30 0)), (1, .int v1), (2, .int v2), (3, .int v3)] 37 [] := by
  rw [f_X11_tray_37] at h
  refine j_iload_n C 2 rfl rfl dX11_tray_37 ?_
  refine j_iconst (v := 2) C (by decide) dX11_tray_38 ?_
  refine j_icmp_ne (tgt := 60) C (by decide) dX11_tray_39 (fun hc1 => ?_) (fun hc1 => ?_)
  · replace h := (if_neg hc1).symm.trans h
    exact j_sub [0, 1, 2, 3] rfl (t_X11_tray_60 C σ v1 v2 v3 h)
  · replace h := (if_pos hc1).symm.trans h
    refine j_iload_n C 3 rfl rfl dX11_tray_42 ?_
    refine j_if_lt (tgt := 54) C (by decide) dX11_tray_43 (fun hc2 => ?_) (fun hc2 => ?_)
    · replace h := (if_pos hc2).symm.trans h
      exact j_sub [0] rfl (t_X11_tray_54 C σ h)
    · replace h := (if_neg hc2).symm.trans h
      refine j_iload_n C 3 rfl rfl dX11_tray_46 ?_
      refine j_aload_n C 0 rfl rfl dX11_tray_47 ?_
      obtain ⟨q3, hq3, h⟩ := bi_some h
      refine j_callVi (As := []) (rest := [.int v3]) C (c_X11_motions hq3) (cwV 0 C.ts (good_V mw_1149 mw_1151 mw_39 mw_73 mw_1152) rfl rfl rfl (by decide +kernel) ⟨Nat.le_of_ble_eq_true rfl, Nat.le_of_ble_eq_true rfl⟩) (fun H hW => CW.rv C.k hW (by decide) cw_30 rfl) rfl rfl (Nat.le_of_ble_eq_true rfl) dX11_tray_48 ⟨Nat.zero_le _, Nat.zero_le _⟩ ?_
      refine j_icmp_lt (tgt := 60) C (by decide) dX11_tray_51 (fun hc4 => ?_) (fun hc4 => ?_)
      · replace h := (if_pos hc4).symm.trans h
        exact j_sub [0, 1, 2, 3] rfl (t_X11_tray_60 C q3.1 v1 v2 v3 h)
      · replace h := (if_neg hc4).symm.trans h
        exact j_sub [0] rfl (t_X11_tray_54 C q3.1 h)
set_option maxRecDepth 100000 in
set_option maxHeartbeats 4000000 in
theorem t_X11_tray_18 {χ : Mem} {T : Nat → Mem} (C : Cx p s m args meth c cX11_tray 7 RX11 (some .int) COM g) {rr : Mem × Int32} (σ : Mem) (h : f_X11_tray_18 σ = some rr) : JJ p l e rm_X11_tray s m args below meth c 7 g ad (MQ below (PoI g ad χ T (rr.1) rr.2) args s 0 0 (geB g)) χ T σ 0 0 [(0, .ref (ad 30 0))] 18 [] := by
  rw [f_X11_tray_18] at h
  refine j_aload_n C 0 rfl rfl dX11_tray_18 ?_
  refine j_iconst (v := 1) C (by decide) dX11_tray_19 ?_
  obtain ⟨q1, hq1, h⟩ := bi_some h
  refine j_callVi (As := [.int (1 : Int32)]) (rest := []) C (c_X11_refused hq1) (cwV 1 C.ts (good_V mw_1300 mw_1302 mw_60 mw_73 mw_1303) rfl rfl rfl (by decide +kernel) ⟨Nat.le_of_ble_eq_true rfl, Nat.le_of_ble_eq_true rfl⟩) (fun H hW => CW.rv C.k hW (by decide) cw_30 rfl) rfl rfl (Nat.le_of_ble_eq_true rfl) dX11_tray_20 ⟨Nat.zero_le _, Nat.zero_le _⟩ ?_
  obtain rfl := Option.some.inj h
  exact j_iret C rfl rfl (Nat.le_refl _) (Nat.le_refl _) dX11_tray_23
set_option maxRecDepth 100000 in
set_option maxHeartbeats 4000000 in
theorem t_X11_tray_0 {χ : Mem} {T : Nat → Mem} (C : Cx p s m args meth c cX11_tray 7 RX11 (some .int) COM g) {rr : Mem × Int32} (σ : Mem) (a1 : Int32) (a2 : Int32) (a3 : Int32) (h : f_X11_tray_0 σ a1 a2 a3 = some rr) : JJ p l e rm_X11_tray s m args below meth c 7 g ad (MQ below (PoI g ad χ T (rr.1) rr.2) args s 0 0 (geB g)) χ T σ 0 0 [(0, .ref (ad 30 0)), (1, .int a1), (2, .int a2), (3, .int a3)] 0 [] := by
  rw [f_X11_tray_0] at h
  refine j_iload_n C 1 rfl rfl dX11_tray_0 ?_
  refine j_if_lt (tgt := 18) C (by decide) dX11_tray_1 (fun hc1 => ?_) (fun hc1 => ?_)
  · replace h := (if_pos hc1).symm.trans h
    exact j_sub [0] rfl (t_X11_tray_18 C σ h)
  · replace h := (if_neg hc1).symm.trans h
    refine j_iload_n C 1 rfl rfl dX11_tray_4 ?_
    refine j_iconst (v := 5) C (by decide) dX11_tray_5 ?_
    refine j_icmp_gt (tgt := 18) C (by decide) dX11_tray_6 (fun hc2 => ?_) (fun hc2 => ?_)
    · replace h := (if_pos hc2).symm.trans h
      exact j_sub [0] rfl (t_X11_tray_18 C σ h)
    · replace h := (if_neg hc2).symm.trans h
      refine j_iload_n C 2 rfl rfl dX11_tray_9 ?_
      refine j_if_lt (tgt := 18) C (by decide) dX11_tray_10 (fun hc3 => ?_) (fun hc3 => ?_)
      · replace h := (if_pos hc3).symm.trans h
        exact j_sub [0] rfl (t_X11_tray_18 C σ h)
      · replace h := (if_neg hc3).symm.trans h
        refine j_iload_n C 2 rfl rfl dX11_tray_13 ?_
        refine j_iconst (v := 4) C (by decide) dX11_tray_14 ?_
        refine j_icmp_le (tgt := 24) C (by decide) dX11_tray_15 (fun hc4 => ?_) (fun hc4 => ?_)
        · replace h := (if_pos hc4).symm.trans h
          refine j_iload_n C 2 rfl rfl dX11_tray_24 ?_
          refine j_iconst (v := 1) C (by decide) dX11_tray_25 ?_
          refine j_icmp_ne (tgt := 37) C (by decide) dX11_tray_26 (fun hc5 => ?_) (fun hc5 => ?_)
          · replace h := (if_neg hc5).symm.trans h
            exact j_sub [0, 1, 2, 3] rfl (t_X11_tray_37 C σ a1 a2 a3 h)
          · replace h := (if_pos hc5).symm.trans h
            refine j_aload_n C 0 rfl rfl dX11_tray_29 ?_
            refine j_iload_n C 3 rfl rfl dX11_tray_30 ?_
            obtain ⟨q6, hq6, h⟩ := bi_some h
            refine j_callVi (As := [.int a3]) (rest := []) C (c_X11_isRod hq6) (cwV 1 C.ts (good_V mw_1133 mw_1135 mw_36 mw_73 mw_1136) rfl rfl rfl (by decide +kernel) ⟨Nat.le_of_ble_eq_true rfl, Nat.le_of_ble_eq_true rfl⟩) (fun H hW => CW.rv C.k hW (by decide) cw_30 rfl) rfl rfl (Nat.le_of_ble_eq_true rfl) dX11_tray_31 ⟨Nat.zero_le _, Nat.zero_le _⟩ ?_
            refine j_if_eq (tgt := 54) C (by decide) dX11_tray_34 (fun hc7 => ?_) (fun hc7 => ?_)
            · replace h := (if_pos hc7).symm.trans h
              exact j_sub [0] rfl (t_X11_tray_54 C σ h)
            · replace h := (if_neg hc7).symm.trans h
              exact j_sub [0, 1, 2, 3] rfl (t_X11_tray_37 C σ a1 a2 a3 h)
        · replace h := (if_neg hc4).symm.trans h
          exact j_sub [0] rfl (t_X11_tray_18 C σ h)
set_option maxRecDepth 100000 in
set_option maxHeartbeats 4000000 in
theorem c_X11_tray {l : Launch} {g : Gc} {ad : Nat → Nat → Nat} {χ : Mem} {T : Nat → Mem} {σ : Mem} {a1 : Int32} {a2 : Int32} {a3 : Int32} {rr : Mem × Int32} (h : f_X11_tray σ a1 a2 a3 = some rr) : Met l yX11_tray (WS yX11_tray cX11_tray 7 (some .int)) rm_X11_tray (PreW g ad χ T σ [.ref (ad 30 0), .int a1, .int a2, .int a3]) (PoI g ad χ T (rr.1) rr.2) 0 0 (geB g) := by
  refine j_metW (by decide) (Nat.le_of_ble_eq_true rfl) fun p e s m below meth c C hname => ?_
  rw [f_X11_tray] at h
  exact j_sub [0, 1, 2, 3] rfl (t_X11_tray_0 C σ a1 a2 a3 h)
set_option maxRecDepth 100000 in
set_option maxHeartbeats 4000000 in
theorem t_X11_forge_443 {χ : Mem} {T : Nat → Mem} (C : Cx p s m args meth c cX11_forge 8 RX11 (some .int) COM g) {rr : Mem × Int32} (σ : Mem) (h : f_X11_forge_443 σ = some rr) : JJ p l e rm_X11_forge s m args below meth c 8 g ad (MQ below (PoI g ad χ T (rr.1) rr.2) args s 0 0 (geB g)) χ T σ 0 0 [(0, .ref (ad 30 0))] 443 [] := by
  rw [f_X11_forge_443] at h
  refine j_aload_n C 0 rfl rfl dX11_forge_443 ?_
  refine j_bipush (v := 14) C (by decide) dX11_forge_444 ?_
  obtain ⟨q1, hq1, h⟩ := bi_some h
  refine j_callVi (As := [.int (14 : Int32)]) (rest := []) C (c_X11_refused hq1) (cwV 1 C.ts (good_V mw_1300 mw_1302 mw_60 mw_73 mw_1303) rfl rfl rfl (by decide +kernel) ⟨Nat.le_of_ble_eq_true rfl, Nat.le_of_ble_eq_true rfl⟩) (fun H hW => CW.rv C.k hW (by decide) cw_30 rfl) rfl rfl (Nat.le_of_ble_eq_true rfl) dX11_forge_446 ⟨Nat.zero_le _, Nat.zero_le _⟩ ?_
  obtain rfl := Option.some.inj h
  exact j_iret C rfl rfl (Nat.le_refl _) (Nat.le_refl _) dX11_forge_449
set_option maxRecDepth 100000 in
set_option maxHeartbeats 4000000 in
theorem t_X11_forge_364 {χ : Mem} {T : Nat → Mem} (C : Cx p s m args meth c cX11_forge 8 RX11 (some .int) COM g) {rr : Mem × Int32} : ∀ (n : Nat) (σ : Mem) (v3 : Int32) (v5 : Int32) (v6 : Int32) (v7 : Int32) (h : f_X11_forge_364 n σ v3 v5 v6 v7 = some rr), JJ p l e rm_X11_forge s m args below meth c 8 g ad (MQ below (PoI g ad χ T (rr.1) rr.2) args s 0 0 (geB g)) χ T σ 0 0 [(0, .ref (ad 30 0)), (3, .int v3), (5, .int v5), (6, .int v6), (7, .int v7)] 364 [] := by
  intro n
  induction n with
  | zero => intro  σ v3 v5 v6 v7  h; cases h
  | succ n ih =>
  intro  σ v3 v5 v6 v7  h
  rw [f_X11_forge_364] at h
  refine j_iload C 4 rfl dX11_forge_364 ?_
  refine j_iload_n C 1 rfl rfl dX11_forge_366 ?_
  refine j_icmp_ge (tgt := 394) C (by decide) dX11_forge_367 (fun hc1 => ?_) (fun hc1 => ?_)
  · replace h := (if_pos hc1).symm.trans h
    refine j_aload_n C 0 rfl rfl dX11_forge_394 ?_
    refine j_iload C 3 rfl dX11_forge_395 ?_
    obtain ⟨q2, hq2, h⟩ := bi_some h
    refine j_callVi (As := [.int v6]) (rest := []) C (c_X11_done hq2) (cwV 1 C.ts (good_V mw_1304 mw_1306 mw_61 mw_73 mw_1307) rfl rfl rfl (by decide +kernel) ⟨Nat.le_of_ble_eq_true rfl, Nat.le_of_ble_eq_true rfl⟩) (fun H hW => CW.rv C.k hW (by decide) cw_30 rfl) rfl rfl (Nat.le_of_ble_eq_true rfl) dX11_forge_397 ⟨Nat.zero_le _, Nat.zero_le _⟩ ?_
    obtain rfl := Option.some.inj h
    exact j_iret C rfl rfl (Nat.le_refl _) (Nat.le_refl _) dX11_forge_400
  · replace h := (if_neg hc1).symm.trans h
    refine j_iload C 3 rfl dX11_forge_370 ?_
    refine j_aload_n C 0 rfl rfl dX11_forge_372 ?_
    refine j_getG C in_X11 (by decide) cw_30 rfl 29 (by decide) mw_1034 (fun _ h => h) rfl dX11_forge_373 ?_
    refine j_iload C 2 rfl dX11_forge_376 ?_
    refine j_iconst (v := 1) C (by decide) dX11_forge_378 ?_
    refine j_iadd C dX11_forge_379 ?_
    refine j_iload C 4 rfl dX11_forge_380 ?_
    refine j_iadd C dX11_forge_382 ?_
    obtain ⟨hg3, h⟩ := gd_some h
    refine j_lald C (by decide) cw_31_29 hg3 dX11_forge_383 ?_
    refine j_l2i C dX11_forge_384 ?_
    refine j_iadd C dX11_forge_385 ?_
    refine j_istore (L' := [(6, .int (v6 + ((gL σ 29 ((v5 + (1 : Int32)) + v7).toNatClampNeg).toInt32))), (0, .ref (ad 30 0)), (3, .int v3), (5, .int v5), (7, .int v7)]) C (by decide) rfl dX11_forge_386 ?_
    refine j_iinc (v := v7 + (1 : Int32)) (L' := [(7, .int (v7 + (1 : Int32))), (6, .int (v6 + ((gL σ 29 ((v5 + (1 : Int32)) + v7).toNatClampNeg).toInt32))), (0, .ref (ad 30 0)), (3, .int v3), (5, .int v5)]) C 4 rfl rfl (by decide) rfl dX11_forge_388 ?_
    refine j_goto (tgt := 364) C (by decide) dX11_forge_391 ?_
    exact j_sub [2, 3, 4, 1, 0] rfl (ih σ v3 v5 (v6 + ((gL σ 29 ((v5 + (1 : Int32)) + v7).toNatClampNeg).toInt32)) (v7 + (1 : Int32)) h)
set_option maxRecDepth 100000 in
set_option maxHeartbeats 4000000 in
theorem t_X11_forge_351 {χ : Mem} {T : Nat → Mem} (C : Cx p s m args meth c cX11_forge 8 RX11 (some .int) COM g) {rr : Mem × Int32} (σ : Mem) (h : f_X11_forge_351 σ = some rr) : JJ p l e rm_X11_forge s m args below meth c 8 g ad (MQ below (PoI g ad χ T (rr.1) rr.2) args s 0 0 (geB g)) χ T σ 0 0 [(0, .ref (ad 30 0))] 351 [] := by
  rw [f_X11_forge_351] at h
  refine j_aload_n C 0 rfl rfl dX11_forge_351 ?_
  refine j_bipush (v := 12) C (by decide) dX11_forge_352 ?_
  obtain ⟨q1, hq1, h⟩ := bi_some h
  refine j_callVi (As := [.int (12 : Int32)]) (rest := []) C (c_X11_refused hq1) (cwV 1 C.ts (good_V mw_1300 mw_1302 mw_60 mw_73 mw_1303) rfl rfl rfl (by decide +kernel) ⟨Nat.le_of_ble_eq_true rfl, Nat.le_of_ble_eq_true rfl⟩) (fun H hW => CW.rv C.k hW (by decide) cw_30 rfl) rfl rfl (Nat.le_of_ble_eq_true rfl) dX11_forge_354 ⟨Nat.zero_le _, Nat.zero_le _⟩ ?_
  obtain rfl := Option.some.inj h
  exact j_iret C rfl rfl (Nat.le_refl _) (Nat.le_refl _) dX11_forge_357
set_option maxRecDepth 100000 in
set_option maxHeartbeats 4000000 in
theorem t_X11_forge_284 {χ : Mem} {T : Nat → Mem} (C : Cx p s m args meth c cX11_forge 8 RX11 (some .int) COM g) {rr : Mem × Int32} (σ : Mem) (h : f_X11_forge_284 σ = some rr) : JJ p l e rm_X11_forge s m args below meth c 8 g ad (MQ below (PoI g ad χ T (rr.1) rr.2) args s 0 0 (geB g)) χ T σ 0 0 [(0, .ref (ad 30 0))] 284 [] := by
  rw [f_X11_forge_284] at h
  refine j_aload_n C 0 rfl rfl dX11_forge_284 ?_
  refine j_bipush (v := 12) C (by decide) dX11_forge_285 ?_
  obtain ⟨q1, hq1, h⟩ := bi_some h
  refine j_callVi (As := [.int (12 : Int32)]) (rest := []) C (c_X11_refused hq1) (cwV 1 C.ts (good_V mw_1300 mw_1302 mw_60 mw_73 mw_1303) rfl rfl rfl (by decide +kernel) ⟨Nat.le_of_ble_eq_true rfl, Nat.le_of_ble_eq_true rfl⟩) (fun H hW => CW.rv C.k hW (by decide) cw_30 rfl) rfl rfl (Nat.le_of_ble_eq_true rfl) dX11_forge_287 ⟨Nat.zero_le _, Nat.zero_le _⟩ ?_
  refine j_goto (tgt := 307) C (by decide) dX11_forge_290 ?_
  obtain rfl := Option.some.inj h
  exact j_iret C rfl rfl (Nat.le_refl _) (Nat.le_refl _) dX11_forge_307
set_option maxRecDepth 100000 in
set_option maxHeartbeats 4000000 in
theorem t_X11_forge_270 {χ : Mem} {T : Nat → Mem} (C : Cx p s m args meth c cX11_forge 8 RX11 (some .int) COM g) {rr : Mem × Int32} (σ : Mem) (v1 : Int32) (v3 : Int32) (v5 : Int32) (h : f_X11_forge_270 σ v1 v3 v5 = some rr) : JJ p l e rm_X11_forge s m args below meth c 8 g ad (MQ below (PoI g ad χ T (rr.1) rr.2) args s 0 0 (geB g)) χ T σ 0 0 [(0, .ref (ad 30 0)), (1, .int v1), (3, .int v3), (5, .int v5)] 270 [] := by
  rw [f_X11_forge_270] at h
  refine j_iload_n C 2 rfl rfl dX11_forge_270 ?_
  refine j_if_lt (tgt := 284) C (by decide) dX11_forge_271 (fun hc1 => ?_) (fun hc1 => ?_)
  · replace h := (if_pos hc1).symm.trans h
    exact j_sub [0] rfl (t_X11_forge_284 C σ h)
  · replace h := (if_neg hc1).symm.trans h
    refine j_iload_n C 2 rfl rfl dX11_forge_274 ?_
    refine j_aload_n C 0 rfl rfl dX11_forge_275 ?_
    refine j_getG C in_X11 (by decide) cw_30 rfl 26 (by decide) mw_1031 (fun _ h => h) rfl dX11_forge_276 ?_
    refine j_iload_n C 1 rfl rfl dX11_forge_279 ?_
    obtain ⟨hg2, h⟩ := gd_some h
    refine j_iald C (by decide) cw_31_26 hg2 dX11_forge_280 ?_
    refine j_icmp_lt (tgt := 293) C (by decide) dX11_forge_281 (fun hc3 => ?_) (fun hc3 => ?_)
    · replace h := (if_pos hc3).symm.trans h
      refine j_aload_n C 0 rfl rfl dX11_forge_293 ?_
      refine j_aload_n C 0 rfl rfl dX11_forge_294 ?_
      refine j_getG C in_X11 (by decide) cw_30 rfl 29 (by decide) mw_1034 (fun _ h => h) rfl dX11_forge_295 ?_
      refine j_iload C 3 rfl dX11_forge_298 ?_
      refine j_iload_n C 2 rfl rfl dX11_forge_300 ?_
      refine j_iadd C dX11_forge_301 ?_
      obtain ⟨hg4, h⟩ := gd_some h
      refine j_lald C (by decide) cw_31_29 hg4 dX11_forge_302 ?_
      refine j_l2i C dX11_forge_303 ?_
      obtain ⟨q5, hq5, h⟩ := bi_some h
      refine j_callVi (As := [.int ((gL σ 29 (v5 + v3).toNatClampNeg).toInt32)]) (rest := []) C (c_X11_done hq5) (cwV 1 C.ts (good_V mw_1304 mw_1306 mw_61 mw_73 mw_1307) rfl rfl rfl (by decide +kernel) ⟨Nat.le_of_ble_eq_true rfl, Nat.le_of_ble_eq_true rfl⟩) (fun H hW => CW.rv C.k hW (by decide) cw_30 rfl) rfl rfl (Nat.le_of_ble_eq_true rfl) dX11_forge_304 ⟨Nat.zero_le _, Nat.zero_le _⟩ ?_
      obtain rfl := Option.some.inj h
      exact j_iret C rfl rfl (Nat.le_refl _) (Nat.le_refl _) dX11_forge_307
    · replace h := (if_neg hc3).symm.trans h
      exact j_sub [0] rfl (t_X11_forge_284 C σ h)
set_option maxRecDepth 100000 in
set_option maxHeartbeats 4000000 in
theorem t_X11_forge_227 {χ : Mem} {T : Nat → Mem} (C : Cx p s m args meth c cX11_forge 8 RX11 (some .int) COM g) {rr : Mem × Int32} : ∀ (n : Nat) (σ : Mem) (v1 : Int32) (v3 : Int32) (v5 : Int32) (v6 : Int32) (v7 : Int32) (h : f_X11_forge_227 n σ v1 v3 v5 v6 v7 = some rr), JJ p l e rm_X11_forge s m args below meth c 8 g ad (MQ below (PoI g ad χ T (rr.1) rr.2) args s 0 0 (geB g)) χ T σ 0 0 [(0, .ref (ad 30 0)), (1, .int v1), (3, .int v3), (5, .int v5), (6, .int v6), (7, .int v7)] 227 [] := by
  intro n
  induction n with
  | zero => intro  σ v1 v3 v5 v6 v7  h; cases h
  | succ n ih =>
  intro  σ v1 v3 v5 v6 v7  h
  rw [f_X11_forge_227] at h
  refine j_iload C 5 rfl dX11_forge_227 ?_
  refine j_aload_n C 0 rfl rfl dX11_forge_229 ?_
  refine j_getG C in_X11 (by decide) cw_30 rfl 26 (by decide) mw_1031 (fun _ h => h) rfl dX11_forge_230 ?_
  refine j_iload_n C 1 rfl rfl dX11_forge_233 ?_
  obtain ⟨hg1, h⟩ := gd_some h
  refine j_iald C (by decide) cw_31_26 hg1 dX11_forge_234 ?_
  refine j_icmp_ge (tgt := 263) C (by decide) dX11_forge_235 (fun hc2 => ?_) (fun hc2 => ?_)
  · replace h := (if_pos hc2).symm.trans h
    refine j_aload_n C 0 rfl rfl dX11_forge_263 ?_
    refine j_iload C 4 rfl dX11_forge_264 ?_
    obtain ⟨q3, hq3, h⟩ := bi_some h
    refine j_callVi (As := [.int v6]) (rest := []) C (c_X11_done hq3) (cwV 1 C.ts (good_V mw_1304 mw_1306 mw_61 mw_73 mw_1307) rfl rfl rfl (by decide +kernel) ⟨Nat.le_of_ble_eq_true rfl, Nat.le_of_ble_eq_true rfl⟩) (fun H hW => CW.rv C.k hW (by decide) cw_30 rfl) rfl rfl (Nat.le_of_ble_eq_true rfl) dX11_forge_266 ⟨Nat.zero_le _, Nat.zero_le _⟩ ?_
    obtain rfl := Option.some.inj h
    exact j_iret C rfl rfl (Nat.le_refl _) (Nat.le_refl _) dX11_forge_269
  · replace h := (if_neg hc2).symm.trans h
    refine j_aload_n C 0 rfl rfl dX11_forge_238 ?_
    refine j_getG C in_X11 (by decide) cw_30 rfl 29 (by decide) mw_1034 (fun _ h => h) rfl dX11_forge_239 ?_
    refine j_iload C 3 rfl dX11_forge_242 ?_
    refine j_iload C 5 rfl dX11_forge_244 ?_
    refine j_iadd C dX11_forge_246 ?_
    obtain ⟨hg4, h⟩ := gd_some h
    refine j_lald C (by decide) cw_31_29 hg4 dX11_forge_247 ?_
    refine j_iload_n C 2 rfl rfl dX11_forge_248 ?_
    refine j_i2l C dX11_forge_249 ?_
    refine j_lcmp_ne (tgt := 257) C dX11_forge_251 (by decide) dX11_forge_250 (fun hc5 => ?_) (fun hc5 => ?_)
    · replace h := (if_neg hc5).symm.trans h
      refine j_iinc (v := v7 + (1 : Int32)) (L' := [(7, .int (v7 + (1 : Int32))), (0, .ref (ad 30 0)), (1, .int v1), (3, .int v3), (5, .int v5), (6, .int v6)]) C 5 rfl rfl (by decide) rfl dX11_forge_257 ?_
      refine j_goto (tgt := 227) C (by decide) dX11_forge_260 ?_
      exact j_sub [1, 2, 3, 4, 5, 0] rfl (ih σ v1 v3 v5 v6 (v7 + (1 : Int32)) h)
    · replace h := (if_pos hc5).symm.trans h
      refine j_iinc (v := v6 + (1 : Int32)) (L' := [(6, .int (v6 + (1 : Int32))), (0, .ref (ad 30 0)), (1, .int v1), (3, .int v3), (5, .int v5), (7, .int v7)]) C 4 rfl rfl (by decide) rfl dX11_forge_254 ?_
      refine j_iinc (v := v7 + (1 : Int32)) (L' := [(7, .int (v7 + (1 : Int32))), (6, .int (v6 + (1 : Int32))), (0, .ref (ad 30 0)), (1, .int v1), (3, .int v3), (5, .int v5)]) C 5 rfl rfl (by decide) rfl dX11_forge_257 ?_
      refine j_goto (tgt := 227) C (by decide) dX11_forge_260 ?_
      exact j_sub [2, 3, 4, 5, 1, 0] rfl (ih σ v1 v3 v5 (v6 + (1 : Int32)) (v7 + (1 : Int32)) h)
set_option maxRecDepth 100000 in
set_option maxHeartbeats 4000000 in
theorem t_X11_forge_194 {χ : Mem} {T : Nat → Mem} (C : Cx p s m args meth c cX11_forge 8 RX11 (some .int) COM g) {rr : Mem × Int32} (σ : Mem) (v1 : Int32) (s0 : Int32) (h : f_X11_forge_194 σ v1 s0 = some rr) : JJ p l e rm_X11_forge s m args below meth c 8 g ad (MQ below (PoI g ad χ T (rr.1) rr.2) args s 0 0 (geB g)) χ T σ 0 0 [(0, .ref (ad 30 0)), (1, .int v1)] 194 [.int s0] := by
  rw [f_X11_forge_194] at h
  refine j_istore (L' := [(7, .int s0), (0, .ref (ad 30 0)), (1, .int v1)]) C (by decide) rfl dX11_forge_194 ?_
  refine j_iload C 0 rfl dX11_forge_196 ?_
  refine j_if_eq (tgt := 214) C (by decide) dX11_forge_198 (fun hc1 => ?_) (fun hc1 => ?_)
  · replace h := (if_pos hc1).symm.trans h
    refine j_aload_n C 1 rfl rfl dX11_forge_214 ?_
    refine j_bipush (v := 11) C (by decide) dX11_forge_215 ?_
    obtain ⟨q2, hq2, h⟩ := bi_some h
    refine j_callVi (As := [.int (11 : Int32)]) (rest := []) C (c_X11_refused hq2) (cwV 1 C.ts (good_V mw_1300 mw_1302 mw_60 mw_73 mw_1303) rfl rfl rfl (by decide +kernel) ⟨Nat.le_of_ble_eq_true rfl, Nat.le_of_ble_eq_true rfl⟩) (fun H hW => CW.rv C.k hW (by decide) cw_30 rfl) rfl rfl (Nat.le_of_ble_eq_true rfl) dX11_forge_217 ⟨Nat.zero_le _, Nat.zero_le _⟩ ?_
    obtain rfl := Option.some.inj h
    exact j_iret C rfl rfl (Nat.le_refl _) (Nat.le_refl _) dX11_forge_220
  · replace h := (if_neg hc1).symm.trans h
    refine j_aload_n C 1 rfl rfl dX11_forge_201 ?_
    refine j_aload_n C 1 rfl rfl dX11_forge_202 ?_
    refine j_getG C in_X11 (by decide) cw_30 rfl 28 (by decide) mw_1033 (fun _ h => h) rfl dX11_forge_203 ?_
    refine j_iload_n C 2 rfl rfl dX11_forge_206 ?_
    obtain ⟨hg3, h⟩ := gd_some h
    refine j_iald C (by decide) cw_31_28 hg3 dX11_forge_207 ?_
    obtain ⟨q4, hq4, h⟩ := bi_some h
    refine j_callVi (As := [.int (gI σ 28 v1.toNatClampNeg)]) (rest := []) C (c_X11_done hq4) (cwV 1 C.ts (good_V mw_1304 mw_1306 mw_61 mw_73 mw_1307) rfl rfl rfl (by decide +kernel) ⟨Nat.le_of_ble_eq_true rfl, Nat.le_of_ble_eq_true rfl⟩) (fun H hW => CW.rv C.k hW (by decide) cw_30 rfl) rfl rfl (Nat.le_of_ble_eq_true rfl) dX11_forge_208 ⟨Nat.zero_le _, Nat.zero_le _⟩ ?_
    refine j_goto (tgt := 220) C (by decide) dX11_forge_211 ?_
    obtain rfl := Option.some.inj h
    exact j_iret C rfl rfl (Nat.le_refl _) (Nat.le_refl _) dX11_forge_220
set_option maxRecDepth 100000 in
set_option maxHeartbeats 4000000 in
theorem t_X11_forge_193 {χ : Mem} {T : Nat → Mem} (C : Cx p s m args meth c cX11_forge 8 RX11 (some .int) COM g) {rr : Mem × Int32} (σ : Mem) (v1 : Int32) (h : f_X11_forge_193 σ v1 = some rr) : JJ p l e rm_X11_forge s m args below meth c 8 g ad (MQ below (PoI g ad χ T (rr.1) rr.2) args s 0 0 (geB g)) χ T σ 0 0 [(0, .ref (ad 30 0)), (1, .int v1)] 193 [] := by
  rw [f_X11_forge_193] at h
  refine j_iconst (v := 0) C (by decide) dX11_forge_193 ?_
  exact j_sub [0, 1] rfl (t_X11_forge_194 C σ v1 (0 : Int32) h)
set_option maxRecDepth 100000 in
set_option maxHeartbeats 4000000 in
theorem t_X11_forge_189 {χ : Mem} {T : Nat → Mem} (C : Cx p s m args meth c cX11_forge 8 RX11 (some .int) COM g) {rr : Mem × Int32} (σ : Mem) (v1 : Int32) (h : f_X11_forge_189 σ v1 = some rr) : JJ p l e rm_X11_forge s m args below meth c 8 g ad (MQ below (PoI g ad χ T (rr.1) rr.2) args s 0 0 (geB g)) χ T σ 0 0 [(0, .ref (ad 30 0)), (1, .int v1)] 189 [] := by
  rw [f_X11_forge_189] at h
  refine j_iconst (v := 1) C (by decide) dX11_forge_189 ?_
  refine j_goto (tgt := 194) C (by decide) dX11_forge_190 ?_
  exact j_sub [0, 1] rfl (t_X11_forge_194 C σ v1 (1 : Int32) h)
set_option maxRecDepth 100000 in
set_option maxHeartbeats 4000000 in
theorem t_X11_forge_157 {χ : Mem} {T : Nat → Mem} (C : Cx p s m args meth c cX11_forge 8 RX11 (some .int) COM g) {rr : Mem × Int32} (σ : Mem) (v1 : Int32) (v6 : Int32) (h : f_X11_forge_157 σ v1 v6 = some rr) : JJ p l e rm_X11_forge s m args below meth c 8 g ad (MQ below (PoI g ad χ T (rr.1) rr.2) args s 0 0 (geB g)) χ T σ 0 0 [(0, .ref (ad 30 0)), (1, .int v1), (6, .int v6)] 157 [] := by
  rw [f_X11_forge_157] at h
  refine j_iload C 2 rfl dX11_forge_157 ?_
  refine j_if_eq (tgt := 189) C (by decide) dX11_forge_159 (fun hc1 => ?_) (fun hc1 => ?_)
  · replace h := (if_pos hc1).symm.trans h
    exact j_sub [0, 1] rfl (t_X11_forge_189 C σ v1 h)
  · replace h := (if_neg hc1).symm.trans h
    refine j_aload_n C 0 rfl rfl dX11_forge_162 ?_
    refine j_getG C in_X11 (by decide) cw_30 rfl 27 (by decide) mw_1032 (fun _ h => h) rfl dX11_forge_163 ?_
    refine j_iload_n C 1 rfl rfl dX11_forge_166 ?_
    obtain ⟨hg2, h⟩ := gd_some h
    refine j_iald C (by decide) cw_31_27 hg2 dX11_forge_167 ?_
    refine j_iload C 2 rfl dX11_forge_168 ?_
    refine j_icmp_eq (tgt := 189) C (by decide) dX11_forge_170 (fun hc3 => ?_) (fun hc3 => ?_)
    · replace h := (if_pos hc3).symm.trans h
      exact j_sub [0, 1] rfl (t_X11_forge_189 C σ v1 h)
    · replace h := (if_neg hc3).symm.trans h
      refine j_iload C 2 rfl dX11_forge_173 ?_
      refine j_iconst (v := 3) C (by decide) dX11_forge_175 ?_
      refine j_icmp_ne (tgt := 193) C (by decide) dX11_forge_176 (fun hc4 => ?_) (fun hc4 => ?_)
      · replace h := (if_neg hc4).symm.trans h
        exact j_sub [0, 1] rfl (t_X11_forge_193 C σ v1 h)
      · replace h := (if_pos hc4).symm.trans h
        refine j_aload_n C 0 rfl rfl dX11_forge_179 ?_
        refine j_getG C in_X11 (by decide) cw_30 rfl 27 (by decide) mw_1032 (fun _ h => h) rfl dX11_forge_180 ?_
        refine j_iload_n C 1 rfl rfl dX11_forge_183 ?_
        refine j_iald C (by decide) cw_31_27 hg2 dX11_forge_184 ?_
        refine j_iconst (v := 4) C (by decide) dX11_forge_185 ?_
        refine j_icmp_ne (tgt := 193) C (by decide) dX11_forge_186 (fun hc5 => ?_) (fun hc5 => ?_)
        · replace h := (if_neg hc5).symm.trans h
          exact j_sub [0, 1] rfl (t_X11_forge_193 C σ v1 h)
        · replace h := (if_pos hc5).symm.trans h
          exact j_sub [0, 1] rfl (t_X11_forge_189 C σ v1 h)
set_option maxRecDepth 100000 in
set_option maxHeartbeats 4000000 in
theorem t_X11_forge_97 {χ : Mem} {T : Nat → Mem} (C : Cx p s m args meth c cX11_forge 8 RX11 (some .int) COM g) {rr : Mem × Int32} (σ : Mem) (v1 : Int32) (v2 : Int32) (v3 : Int32) (v4 : Int32) (v5 : Int32) (h : f_X11_forge_97 σ v1 v2 v3 v4 v5 = some rr) : JJ p l e rm_X11_forge s m args below meth c 8 g ad (MQ below (PoI g ad χ T (rr.1) rr.2) args s 0 0 (geB g)) χ T σ 0 0 [(0, .ref (ad 30 0)), (1, .int v1), (2, .int v2), (3, .int v3), (4, .int v4), (5, .int v5)] 97 [] := by
  rw [f_X11_forge_97] at h
  refine j_iload_n C 2 rfl rfl dX11_forge_97 ?_
  by_cases hs1 : v2.toInt < 0 ∨ 7 < v2.toInt
  · replace h := (if_pos hs1).symm.trans h
    refine j_tableOut (tgt := 473) C hs1 (by decide) dX11_forge_98 ?_
    refine j_aload_n C 0 rfl rfl dX11_forge_473 ?_
    refine j_bipush (v := 10) C (by decide) dX11_forge_474 ?_
    obtain ⟨q2, hq2, h⟩ := bi_some h
    refine j_callVi (As := [.int (10 : Int32)]) (rest := []) C (c_X11_refused hq2) (cwV 1 C.ts (good_V mw_1300 mw_1302 mw_60 mw_73 mw_1303) rfl rfl rfl (by decide +kernel) ⟨Nat.le_of_ble_eq_true rfl, Nat.le_of_ble_eq_true rfl⟩) (fun H hW => CW.rv C.k hW (by decide) cw_30 rfl) rfl rfl (Nat.le_of_ble_eq_true rfl) dX11_forge_476 ⟨Nat.zero_le _, Nat.zero_le _⟩ ?_
    obtain rfl := Option.some.inj h
    exact j_iret C rfl rfl (Nat.le_refl _) (Nat.le_refl _) dX11_forge_479
  · replace h := (if_neg hs1).symm.trans h
    by_cases hx3 : v2 = (0 : Int32)
    · replace h := (if_pos hx3).symm.trans h
      refine j_tableIn (off := 46) (tgt := 144) C (fun q => hs1 (Or.inl q)) (fun q => hs1 (Or.inr q)) (by rw [hx3]; rfl) (by decide) dX11_forge_98 ?_
      refine j_iload_n C 3 rfl rfl dX11_forge_144 ?_
      refine j_iconst (v := 5) C (by decide) dX11_forge_145 ?_
      refine j_irem C (by decide) dX11_forge_146 ?_
      refine j_istore (L' := [(6, .int (v3 - v3 / (5 : Int32) * (5 : Int32))), (0, .ref (ad 30 0)), (1, .int v1), (2, .int v2), (3, .int v3), (4, .int v4), (5, .int v5)]) C (by decide) rfl dX11_forge_147 ?_
      refine j_iload C 0 rfl dX11_forge_149 ?_
      refine j_if_ge (tgt := 157) C (by decide) dX11_forge_151 (fun hc4 => ?_) (fun hc4 => ?_)
      · replace h := (if_pos hc4).symm.trans h
        exact j_sub [1, 2, 0] rfl (t_X11_forge_157 C σ v1 (v3 - v3 / (5 : Int32) * (5 : Int32)) h)
      · replace h := (if_neg hc4).symm.trans h
        refine j_iinc (v := (v3 - v3 / (5 : Int32) * (5 : Int32)) + (5 : Int32)) (L' := [(6, .int ((v3 - v3 / (5 : Int32) * (5 : Int32)) + (5 : Int32))), (0, .ref (ad 30 0)), (1, .int v1), (2, .int v2), (3, .int v3), (4, .int v4), (5, .int v5)]) C 0 rfl rfl (by decide) rfl dX11_forge_154 ?_
        exact j_sub [1, 2, 0] rfl (t_X11_forge_157 C σ v1 ((v3 - v3 / (5 : Int32) * (5 : Int32)) + (5 : Int32)) h)
    · replace h := (if_neg hx3).symm.trans h
      by_cases hx5 : v2 = (1 : Int32)
      · replace h := (if_pos hx5).symm.trans h
        refine j_tableIn (off := 123) (tgt := 221) C (fun q => hs1 (Or.inl q)) (fun q => hs1 (Or.inr q)) (by rw [hx5]; rfl) (by decide) dX11_forge_98 ?_
        refine j_iconst (v := 0) C (by decide) dX11_forge_221 ?_
        refine j_istore (L' := [(6, .int (0 : Int32)), (0, .ref (ad 30 0)), (1, .int v1), (2, .int v2), (3, .int v3), (4, .int v4), (5, .int v5)]) C (by decide) rfl dX11_forge_222 ?_
        refine j_iconst (v := 0) C (by decide) dX11_forge_224 ?_
        refine j_istore (L' := [(7, .int (0 : Int32)), (6, .int (0 : Int32)), (0, .ref (ad 30 0)), (1, .int v1), (2, .int v2), (3, .int v3), (4, .int v4), (5, .int v5)]) C (by decide) rfl dX11_forge_225 ?_
        exact j_sub [2, 3, 5, 7, 1, 0] rfl (t_X11_forge_227 C FU σ v1 v3 v5 (0 : Int32) (0 : Int32) h)
      · replace h := (if_neg hx5).symm.trans h
        by_cases hx6 : v2 = (2 : Int32)
        · replace h := (if_pos hx6).symm.trans h
          refine j_tableIn (off := 172) (tgt := 270) C (fun q => hs1 (Or.inl q)) (fun q => hs1 (Or.inr q)) (by rw [hx6]; rfl) (by decide) dX11_forge_98 ?_
          exact j_sub [0, 1, 3, 5] rfl (t_X11_forge_270 C σ v1 v3 v5 h)
        · replace h := (if_neg hx6).symm.trans h
          by_cases hx7 : v2 = (3 : Int32)
          · replace h := (if_pos hx7).symm.trans h
            refine j_tableIn (off := 172) (tgt := 270) C (fun q => hs1 (Or.inl q)) (fun q => hs1 (Or.inr q)) (by rw [hx7]; rfl) (by decide) dX11_forge_98 ?_
            exact j_sub [0, 1, 3, 5] rfl (t_X11_forge_270 C σ v1 v3 v5 h)
          · replace h := (if_neg hx7).symm.trans h
            by_cases hx8 : v2 = (4 : Int32)
            · replace h := (if_pos hx8).symm.trans h
              refine j_tableIn (off := 210) (tgt := 308) C (fun q => hs1 (Or.inl q)) (fun q => hs1 (Or.inr q)) (by rw [hx8]; rfl) (by decide) dX11_forge_98 ?_
              refine j_iload_n C 3 rfl rfl dX11_forge_308 ?_
              refine j_if_ge (tgt := 321) C (by decide) dX11_forge_309 (fun hc9 => ?_) (fun hc9 => ?_)
              · replace h := (if_pos hc9).symm.trans h
                refine j_aload_n C 0 rfl rfl dX11_forge_321 ?_
                refine j_iload_n C 3 rfl rfl dX11_forge_322 ?_
                obtain ⟨q10, hq10, h⟩ := bi_some h
                refine j_callVi (As := [.int v3]) (rest := []) C (c_X11_done hq10) (cwV 1 C.ts (good_V mw_1304 mw_1306 mw_61 mw_73 mw_1307) rfl rfl rfl (by decide +kernel) ⟨Nat.le_of_ble_eq_true rfl, Nat.le_of_ble_eq_true rfl⟩) (fun H hW => CW.rv C.k hW (by decide) cw_30 rfl) rfl rfl (Nat.le_of_ble_eq_true rfl) dX11_forge_323 ⟨Nat.zero_le _, Nat.zero_le _⟩ ?_
                obtain rfl := Option.some.inj h
                exact j_iret C rfl rfl (Nat.le_refl _) (Nat.le_refl _) dX11_forge_326
              · replace h := (if_neg hc9).symm.trans h
                refine j_aload_n C 0 rfl rfl dX11_forge_312 ?_
                refine j_bipush (v := 13) C (by decide) dX11_forge_313 ?_
                obtain ⟨q11, hq11, h⟩ := bi_some h
                refine j_callVi (As := [.int (13 : Int32)]) (rest := []) C (c_X11_refused hq11) (cwV 1 C.ts (good_V mw_1300 mw_1302 mw_60 mw_73 mw_1303) rfl rfl rfl (by decide +kernel) ⟨Nat.le_of_ble_eq_true rfl, Nat.le_of_ble_eq_true rfl⟩) (fun H hW => CW.rv C.k hW (by decide) cw_30 rfl) rfl rfl (Nat.le_of_ble_eq_true rfl) dX11_forge_315 ⟨Nat.zero_le _, Nat.zero_le _⟩ ?_
                refine j_goto (tgt := 326) C (by decide) dX11_forge_318 ?_
                obtain rfl := Option.some.inj h
                exact j_iret C rfl rfl (Nat.le_refl _) (Nat.le_refl _) dX11_forge_326
            · replace h := (if_neg hx8).symm.trans h
              by_cases hx12 : v2 = (5 : Int32)
              · replace h := (if_pos hx12).symm.trans h
                refine j_tableIn (off := 229) (tgt := 327) C (fun q => hs1 (Or.inl q)) (fun q => hs1 (Or.inr q)) (by rw [hx12]; rfl) (by decide) dX11_forge_98 ?_
                refine j_iload_n C 3 rfl rfl dX11_forge_327 ?_
                refine j_if_lt (tgt := 351) C (by decide) dX11_forge_328 (fun hc13 => ?_) (fun hc13 => ?_)
                · replace h := (if_pos hc13).symm.trans h
                  exact j_sub [0] rfl (t_X11_forge_351 C σ h)
                · replace h := (if_neg hc13).symm.trans h
                  refine j_iconst (v := 1) C (by decide) dX11_forge_331 ?_
                  refine j_iload_n C 3 rfl rfl dX11_forge_332 ?_
                  refine j_iadd C dX11_forge_333 ?_
                  refine j_aload_n C 0 rfl rfl dX11_forge_334 ?_
                  refine j_getG C in_X11 (by decide) cw_30 rfl 26 (by decide) mw_1031 (fun _ h => h) rfl dX11_forge_335 ?_
                  refine j_iload_n C 1 rfl rfl dX11_forge_338 ?_
                  obtain ⟨hg14, h⟩ := gd_some h
                  refine j_iald C (by decide) cw_31_26 hg14 dX11_forge_339 ?_
                  refine j_icmp_gt (tgt := 351) C (by decide) dX11_forge_340 (fun hc15 => ?_) (fun hc15 => ?_)
                  · replace h := (if_pos hc15).symm.trans h
                    exact j_sub [0] rfl (t_X11_forge_351 C σ h)
                  · replace h := (if_neg hc15).symm.trans h
                    refine j_iload_n C 3 rfl rfl dX11_forge_343 ?_
                    refine j_iload_n C 3 rfl rfl dX11_forge_344 ?_
                    refine j_iadd C dX11_forge_345 ?_
                    refine j_bipush (v := 9) C (by decide) dX11_forge_346 ?_
                    refine j_icmp_le (tgt := 358) C (by decide) dX11_forge_348 (fun hc16 => ?_) (fun hc16 => ?_)
                    · replace h := (if_pos hc16).symm.trans h
                      refine j_iconst (v := 0) C (by decide) dX11_forge_358 ?_
                      refine j_istore (L' := [(6, .int (0 : Int32)), (0, .ref (ad 30 0)), (1, .int v1), (2, .int v2), (3, .int v3), (4, .int v4), (5, .int v5)]) C (by decide) rfl dX11_forge_359 ?_
                      refine j_iconst (v := 0) C (by decide) dX11_forge_361 ?_
                      refine j_istore (L' := [(7, .int (0 : Int32)), (6, .int (0 : Int32)), (0, .ref (ad 30 0)), (1, .int v1), (2, .int v2), (3, .int v3), (4, .int v4), (5, .int v5)]) C (by decide) rfl dX11_forge_362 ?_
                      exact j_sub [2, 5, 7, 1, 0] rfl (t_X11_forge_364 C FU σ v3 v5 (0 : Int32) (0 : Int32) h)
                    · replace h := (if_neg hc16).symm.trans h
                      exact j_sub [0] rfl (t_X11_forge_351 C σ h)
              · replace h := (if_neg hx12).symm.trans h
                by_cases hx17 : v2 = (6 : Int32)
                · replace h := (if_pos hx17).symm.trans h
                  refine j_tableIn (off := 303) (tgt := 401) C (fun q => hs1 (Or.inl q)) (fun q => hs1 (Or.inr q)) (by rw [hx17]; rfl) (by decide) dX11_forge_98 ?_
                  refine j_iload C 4 rfl dX11_forge_401 ?_
                  refine j_if_ne (tgt := 414) C (by decide) dX11_forge_403 (fun hc18 => ?_) (fun hc18 => ?_)
                  · replace h := (if_neg hc18).symm.trans h
                    refine j_iload C 4 rfl dX11_forge_414 ?_
                    refine j_iconst (v := 1) C (by decide) dX11_forge_416 ?_
                    refine j_icmp_ne (tgt := 443) C (by decide) dX11_forge_417 (fun hc19 => ?_) (fun hc19 => ?_)
                    · replace h := (if_neg hc19).symm.trans h
                      exact j_sub [0] rfl (t_X11_forge_443 C σ h)
                    · replace h := (if_pos hc19).symm.trans h
                      refine j_aload_n C 0 rfl rfl dX11_forge_420 ?_
                      refine j_getG C in_X11 (by decide) cw_30 rfl 27 (by decide) mw_1032 (fun _ h => h) rfl dX11_forge_421 ?_
                      refine j_iload_n C 1 rfl rfl dX11_forge_424 ?_
                      obtain ⟨hg20, h⟩ := gd_some h
                      refine j_iald C (by decide) cw_31_27 hg20 dX11_forge_425 ?_
                      refine j_iconst (v := 3) C (by decide) dX11_forge_426 ?_
                      refine j_icmp_lt (tgt := 443) C (by decide) dX11_forge_427 (fun hc21 => ?_) (fun hc21 => ?_)
                      · replace h := (if_pos hc21).symm.trans h
                        exact j_sub [0] rfl (t_X11_forge_443 C σ h)
                      · replace h := (if_neg hc21).symm.trans h
                        refine j_aload_n C 0 rfl rfl dX11_forge_430 ?_
                        refine j_aload_n C 0 rfl rfl dX11_forge_431 ?_
                        refine j_getG C in_X11 (by decide) cw_30 rfl 26 (by decide) mw_1031 (fun _ h => h) rfl dX11_forge_432 ?_
                        refine j_iload_n C 1 rfl rfl dX11_forge_435 ?_
                        refine j_iald C (by decide) cw_31_26 hg20 dX11_forge_436 ?_
                        obtain ⟨q22, hq22, h⟩ := bi_some h
                        refine j_callVi (As := [.int (gI σ 26 v1.toNatClampNeg)]) (rest := []) C (c_X11_done hq22) (cwV 1 C.ts (good_V mw_1304 mw_1306 mw_61 mw_73 mw_1307) rfl rfl rfl (by decide +kernel) ⟨Nat.le_of_ble_eq_true rfl, Nat.le_of_ble_eq_true rfl⟩) (fun H hW => CW.rv C.k hW (by decide) cw_30 rfl) rfl rfl (Nat.le_of_ble_eq_true rfl) dX11_forge_437 ⟨Nat.zero_le _, Nat.zero_le _⟩ ?_
                        refine j_goto (tgt := 449) C (by decide) dX11_forge_440 ?_
                        obtain rfl := Option.some.inj h
                        exact j_iret C rfl rfl (Nat.le_refl _) (Nat.le_refl _) dX11_forge_449
                  · replace h := (if_pos hc18).symm.trans h
                    refine j_aload_n C 0 rfl rfl dX11_forge_406 ?_
                    refine j_iconst (v := 0) C (by decide) dX11_forge_407 ?_
                    obtain ⟨q23, hq23, h⟩ := bi_some h
                    refine j_callVi (As := [.int (0 : Int32)]) (rest := []) C (c_X11_done hq23) (cwV 1 C.ts (good_V mw_1304 mw_1306 mw_61 mw_73 mw_1307) rfl rfl rfl (by decide +kernel) ⟨Nat.le_of_ble_eq_true rfl, Nat.le_of_ble_eq_true rfl⟩) (fun H hW => CW.rv C.k hW (by decide) cw_30 rfl) rfl rfl (Nat.le_of_ble_eq_true rfl) dX11_forge_408 ⟨Nat.zero_le _, Nat.zero_le _⟩ ?_
                    refine j_goto (tgt := 449) C (by decide) dX11_forge_411 ?_
                    obtain rfl := Option.some.inj h
                    exact j_iret C rfl rfl (Nat.le_refl _) (Nat.le_refl _) dX11_forge_449
                · replace h := (if_neg hx17).symm.trans h
                  by_cases hx24 : v2 = (7 : Int32)
                  · replace h := (if_pos hx24).symm.trans h
                    refine j_tableIn (off := 352) (tgt := 450) C (fun q => hs1 (Or.inl q)) (fun q => hs1 (Or.inr q)) (by rw [hx24]; rfl) (by decide) dX11_forge_98 ?_
                    refine j_iload_n C 3 rfl rfl dX11_forge_450 ?_
                    refine j_if_ne (tgt := 463) C (by decide) dX11_forge_451 (fun hc25 => ?_) (fun hc25 => ?_)
                    · replace h := (if_neg hc25).symm.trans h
                      refine j_aload_n C 0 rfl rfl dX11_forge_463 ?_
                      refine j_sipush (v := 1000) C (by decide) dX11_forge_464 ?_
                      refine j_iload_n C 3 rfl rfl dX11_forge_467 ?_
                      obtain ⟨hg26, h⟩ := gz_some h
                      refine j_idiv C hg26 dX11_forge_468 ?_
                      obtain ⟨q27, hq27, h⟩ := bi_some h
                      refine j_callVi (As := [.int ((1000 : Int32) / v3)]) (rest := []) C (c_X11_done hq27) (cwV 1 C.ts (good_V mw_1304 mw_1306 mw_61 mw_73 mw_1307) rfl rfl rfl (by decide +kernel) ⟨Nat.le_of_ble_eq_true rfl, Nat.le_of_ble_eq_true rfl⟩) (fun H hW => CW.rv C.k hW (by decide) cw_30 rfl) rfl rfl (Nat.le_of_ble_eq_true rfl) dX11_forge_469 ⟨Nat.zero_le _, Nat.zero_le _⟩ ?_
                      obtain rfl := Option.some.inj h
                      exact j_iret C rfl rfl (Nat.le_refl _) (Nat.le_refl _) dX11_forge_472
                    · replace h := (if_pos hc25).symm.trans h
                      refine j_aload_n C 0 rfl rfl dX11_forge_454 ?_
                      refine j_bipush (v := 15) C (by decide) dX11_forge_455 ?_
                      obtain ⟨q28, hq28, h⟩ := bi_some h
                      refine j_callVi (As := [.int (15 : Int32)]) (rest := []) C (c_X11_refused hq28) (cwV 1 C.ts (good_V mw_1300 mw_1302 mw_60 mw_73 mw_1303) rfl rfl rfl (by decide +kernel) ⟨Nat.le_of_ble_eq_true rfl, Nat.le_of_ble_eq_true rfl⟩) (fun H hW => CW.rv C.k hW (by decide) cw_30 rfl) rfl rfl (Nat.le_of_ble_eq_true rfl) dX11_forge_457 ⟨Nat.zero_le _, Nat.zero_le _⟩ ?_
                      refine j_goto (tgt := 472) C (by decide) dX11_forge_460 ?_
                      obtain rfl := Option.some.inj h
                      exact j_iret C rfl rfl (Nat.le_refl _) (Nat.le_refl _) dX11_forge_472
                  · replace h := (if_neg hx24).symm.trans h
                    cases h
set_option maxRecDepth 100000 in
set_option maxHeartbeats 4000000 in
theorem t_X11_forge_87 {χ : Mem} {T : Nat → Mem} (C : Cx p s m args meth c cX11_forge 8 RX11 (some .int) COM g) {rr : Mem × Int32} (σ : Mem) (v1 : Int32) (v2 : Int32) (v3 : Int32) (v4 : Int32) (v5 : Int32) (s0 : Int32) (s1 : Int32) (h : f_X11_forge_87 σ v1 v2 v3 v4 v5 s0 s1 = some rr) : JJ p l e rm_X11_forge s m args below meth c 8 g ad (MQ below (PoI g ad χ T (rr.1) rr.2) args s 0 0 (geB g)) χ T σ 0 0 [(0, .ref (ad 30 0)), (1, .int v1), (2, .int v2), (3, .int v3), (4, .int v4), (5, .int v5)] 87 [.int s0, .int s1] := by
  rw [f_X11_forge_87] at h
  refine j_icmp_eq (tgt := 97) C (by decide) dX11_forge_87 (fun hc1 => ?_) (fun hc1 => ?_)
  · replace h := (if_pos hc1).symm.trans h
    exact j_sub [0, 1, 2, 3, 4, 5] rfl (t_X11_forge_97 C σ v1 v2 v3 v4 v5 h)
  · replace h := (if_neg hc1).symm.trans h
    refine j_aload_n C 0 rfl rfl dX11_forge_90 ?_
    refine j_bipush (v := 11) C (by decide) dX11_forge_91 ?_
    obtain ⟨q2, hq2, h⟩ := bi_some h
    refine j_callVi (As := [.int (11 : Int32)]) (rest := []) C (c_X11_refused hq2) (cwV 1 C.ts (good_V mw_1300 mw_1302 mw_60 mw_73 mw_1303) rfl rfl rfl (by decide +kernel) ⟨Nat.le_of_ble_eq_true rfl, Nat.le_of_ble_eq_true rfl⟩) (fun H hW => CW.rv C.k hW (by decide) cw_30 rfl) rfl rfl (Nat.le_of_ble_eq_true rfl) dX11_forge_93 ⟨Nat.zero_le _, Nat.zero_le _⟩ ?_
    obtain rfl := Option.some.inj h
    exact j_iret C rfl rfl (Nat.le_refl _) (Nat.le_refl _) dX11_forge_96
set_option maxRecDepth 100000 in
set_option maxHeartbeats 4000000 in
theorem t_X11_forge_61 {χ : Mem} {T : Nat → Mem} (C : Cx p s m args meth c cX11_forge 8 RX11 (some .int) COM g) {rr : Mem × Int32} (σ : Mem) (v1 : Int32) (v2 : Int32) (v3 : Int32) (v4 : Int32) (v5 : Int32) (h : f_X11_forge_61 σ v1 v2 v3 v4 v5 = some rr) : JJ p l e rm_X11_forge s m args below meth c 8 g ad (MQ below (PoI g ad χ T (rr.1) rr.2) args s 0 0 (geB g)) χ T σ 0 0 [(0, .ref (ad 30 0)), (1, .int v1), (2, .int v2), (3, .int v3), (4, .int v4), (5, .int v5)] 61 [] := by
  rw [f_X11_forge_61] at h
  refine j_iload C 4 rfl dX11_forge_61 ?_
  refine j_if_ne (tgt := 73) C (by decide) dX11_forge_63 (fun hc1 => ?_) (fun hc1 => ?_)
  · replace h := (if_neg hc1).symm.trans h
    refine j_iload C 4 rfl dX11_forge_73 ?_
    refine j_iload_n C 2 rfl rfl dX11_forge_75 ?_
    refine j_iconst (v := 5) C (by decide) dX11_forge_76 ?_
    refine j_icmp_ne (tgt := 84) C (by decide) dX11_forge_77 (fun hc2 => ?_) (fun hc2 => ?_)
    · replace h := (if_neg hc2).symm.trans h
      refine j_iload_n C 2 rfl rfl dX11_forge_84 ?_
      refine j_iconst (v := 1) C (by decide) dX11_forge_85 ?_
      refine j_iadd C dX11_forge_86 ?_
      exact j_sub [0, 1, 2, 3, 4, 5] rfl (t_X11_forge_87 C σ v1 v2 v3 v4 v5 (v2 + (1 : Int32)) v4 h)
    · replace h := (if_pos hc2).symm.trans h
      refine j_iconst (v := 3) C (by decide) dX11_forge_80 ?_
      refine j_goto (tgt := 87) C (by decide) dX11_forge_81 ?_
      exact j_sub [0, 1, 2, 3, 4, 5] rfl (t_X11_forge_87 C σ v1 v2 v3 v4 v5 (3 : Int32) v4 h)
  · replace h := (if_pos hc1).symm.trans h
    refine j_aload_n C 0 rfl rfl dX11_forge_66 ?_
    refine j_bipush (v := 10) C (by decide) dX11_forge_67 ?_
    obtain ⟨q3, hq3, h⟩ := bi_some h
    refine j_callVi (As := [.int (10 : Int32)]) (rest := []) C (c_X11_refused hq3) (cwV 1 C.ts (good_V mw_1300 mw_1302 mw_60 mw_73 mw_1303) rfl rfl rfl (by decide +kernel) ⟨Nat.le_of_ble_eq_true rfl, Nat.le_of_ble_eq_true rfl⟩) (fun H hW => CW.rv C.k hW (by decide) cw_30 rfl) rfl rfl (Nat.le_of_ble_eq_true rfl) dX11_forge_69 ⟨Nat.zero_le _, Nat.zero_le _⟩ ?_
    obtain rfl := Option.some.inj h
    exact j_iret C rfl rfl (Nat.le_refl _) (Nat.le_refl _) dX11_forge_72
set_option maxRecDepth 100000 in
set_option maxHeartbeats 4000000 in
theorem t_X11_forge_31 {χ : Mem} {T : Nat → Mem} (C : Cx p s m args meth c cX11_forge 8 RX11 (some .int) COM g) {rr : Mem × Int32} (σ : Mem) (h : f_X11_forge_31 σ = some rr) : JJ p l e rm_X11_forge s m args below meth c 8 g ad (MQ below (PoI g ad χ T (rr.1) rr.2) args s 0 0 (geB g)) χ T σ 0 0 [(0, .ref (ad 30 0))] 31 [] := by
  rw [f_X11_forge_31] at h
  refine j_aload_n C 0 rfl rfl dX11_forge_31 ?_
  refine j_iconst (v := 1) C (by decide) dX11_forge_32 ?_
  obtain ⟨q1, hq1, h⟩ := bi_some h
  refine j_callVi (As := [.int (1 : Int32)]) (rest := []) C (c_X11_refused hq1) (cwV 1 C.ts (good_V mw_1300 mw_1302 mw_60 mw_73 mw_1303) rfl rfl rfl (by decide +kernel) ⟨Nat.le_of_ble_eq_true rfl, Nat.le_of_ble_eq_true rfl⟩) (fun H hW => CW.rv C.k hW (by decide) cw_30 rfl) rfl rfl (Nat.le_of_ble_eq_true rfl) dX11_forge_33 ⟨Nat.zero_le _, Nat.zero_le _⟩ ?_
  obtain rfl := Option.some.inj h
  exact j_iret C rfl rfl (Nat.le_refl _) (Nat.le_refl _) dX11_forge_36
set_option maxRecDepth 100000 in
set_option maxHeartbeats 4000000 in
theorem t_X11_forge_0 {χ : Mem} {T : Nat → Mem} (C : Cx p s m args meth c cX11_forge 8 RX11 (some .int) COM g) {rr : Mem × Int32} (σ : Mem) (a1 : Int32) (a2 : Int32) (a3 : Int32) (h : f_X11_forge_0 σ a1 a2 a3 = some rr) : JJ p l e rm_X11_forge s m args below meth c 8 g ad (MQ below (PoI g ad χ T (rr.1) rr.2) args s 0 0 (geB g)) χ T σ 0 0 [(0, .ref (ad 30 0)), (1, .int a1), (2, .int a2), (3, .int a3)] 0 [] := by
  rw [f_X11_forge_0] at h
  refine j_iload_n C 1 rfl rfl dX11_forge_0 ?_
  refine j_if_lt (tgt := 31) C (by decide) dX11_forge_1 (fun hc1 => ?_) (fun hc1 => ?_)
  · replace h := (if_pos hc1).symm.trans h
    exact j_sub [0] rfl (t_X11_forge_31 C σ h)
  · replace h := (if_neg hc1).symm.trans h
    refine j_iload_n C 1 rfl rfl dX11_forge_4 ?_
    refine j_iconst (v := 5) C (by decide) dX11_forge_5 ?_
    refine j_icmp_gt (tgt := 31) C (by decide) dX11_forge_6 (fun hc2 => ?_) (fun hc2 => ?_)
    · replace h := (if_pos hc2).symm.trans h
      exact j_sub [0] rfl (t_X11_forge_31 C σ h)
    · replace h := (if_neg hc2).symm.trans h
      refine j_iload_n C 2 rfl rfl dX11_forge_9 ?_
      refine j_if_lt (tgt := 31) C (by decide) dX11_forge_10 (fun hc3 => ?_) (fun hc3 => ?_)
      · replace h := (if_pos hc3).symm.trans h
        exact j_sub [0] rfl (t_X11_forge_31 C σ h)
      · replace h := (if_neg hc3).symm.trans h
        refine j_iload_n C 2 rfl rfl dX11_forge_13 ?_
        refine j_bipush (v := 8) C (by decide) dX11_forge_14 ?_
        refine j_icmp_gt (tgt := 31) C (by decide) dX11_forge_16 (fun hc4 => ?_) (fun hc4 => ?_)
        · replace h := (if_pos hc4).symm.trans h
          exact j_sub [0] rfl (t_X11_forge_31 C σ h)
        · replace h := (if_neg hc4).symm.trans h
          refine j_iload_n C 3 rfl rfl dX11_forge_19 ?_
          refine j_bipush (v := -100) C (by decide) dX11_forge_20 ?_
          refine j_icmp_lt (tgt := 31) C (by decide) dX11_forge_22 (fun hc5 => ?_) (fun hc5 => ?_)
          · replace h := (if_pos hc5).symm.trans h
            exact j_sub [0] rfl (t_X11_forge_31 C σ h)
          · replace h := (if_neg hc5).symm.trans h
            refine j_iload_n C 3 rfl rfl dX11_forge_25 ?_
            refine j_bipush (v := 100) C (by decide) dX11_forge_26 ?_
            refine j_icmp_le (tgt := 37) C (by decide) dX11_forge_28 (fun hc6 => ?_) (fun hc6 => ?_)
            · replace h := (if_pos hc6).symm.trans h
              refine j_aload_n C 0 rfl rfl dX11_forge_37 ?_
              refine j_getG C in_X11 (by decide) cw_30 rfl 25 (by decide) mw_1030 (fun _ h => h) rfl dX11_forge_38 ?_
              refine j_iload_n C 1 rfl rfl dX11_forge_41 ?_
              obtain ⟨hg7, h⟩ := gd_some h
              refine j_iald C (by decide) cw_31_25 hg7 dX11_forge_42 ?_
              refine j_istore (L' := [(4, .int (gI σ 25 a1.toNatClampNeg)), (0, .ref (ad 30 0)), (1, .int a1), (2, .int a2), (3, .int a3)]) C (by decide) rfl dX11_forge_43 ?_
              refine j_bipush (v := 16) C (by decide) dX11_forge_45 ?_
              refine j_iload_n C 2 rfl rfl dX11_forge_47 ?_
              refine j_imul C dX11_forge_48 ?_
              refine j_istore (L' := [(5, .int ((16 : Int32) * a1)), (4, .int (gI σ 25 a1.toNatClampNeg)), (0, .ref (ad 30 0)), (1, .int a1), (2, .int a2), (3, .int a3)]) C (by decide) rfl dX11_forge_49 ?_
              refine j_iload_n C 4 rfl rfl dX11_forge_51 ?_
              refine j_iconst (v := 3) C (by decide) dX11_forge_52 ?_
              refine j_icmp_le (tgt := 61) C (by decide) dX11_forge_53 (fun hc8 => ?_) (fun hc8 => ?_)
              · replace h := (if_pos hc8).symm.trans h
                exact j_sub [2, 3, 4, 5, 1, 0] rfl (t_X11_forge_61 C σ a1 a2 a3 (gI σ 25 a1.toNatClampNeg) ((16 : Int32) * a1) h)
              · replace h := (if_neg hc8).symm.trans h
                refine j_iload_n C 4 rfl rfl dX11_forge_56 ?_
                refine j_iconst (v := 5) C (by decide) dX11_forge_57 ?_
                refine j_icmp_ne (tgt := 97) C (by decide) dX11_forge_58 (fun hc9 => ?_) (fun hc9 => ?_)
                · replace h := (if_neg hc9).symm.trans h
                  exact j_sub [2, 3, 4, 5, 1, 0] rfl (t_X11_forge_97 C σ a1 a2 a3 (gI σ 25 a1.toNatClampNeg) ((16 : Int32) * a1) h)
                · replace h := (if_pos hc9).symm.trans h
                  exact j_sub [2, 3, 4, 5, 1, 0] rfl (t_X11_forge_61 C σ a1 a2 a3 (gI σ 25 a1.toNatClampNeg) ((16 : Int32) * a1) h)
            · replace h := (if_neg hc6).symm.trans h
              exact j_sub [0] rfl (t_X11_forge_31 C σ h)
set_option maxRecDepth 100000 in
set_option maxHeartbeats 4000000 in
theorem c_X11_forge {l : Launch} {g : Gc} {ad : Nat → Nat → Nat} {χ : Mem} {T : Nat → Mem} {σ : Mem} {a1 : Int32} {a2 : Int32} {a3 : Int32} {rr : Mem × Int32} (h : f_X11_forge σ a1 a2 a3 = some rr) : Met l yX11_forge (WS yX11_forge cX11_forge 8 (some .int)) rm_X11_forge (PreW g ad χ T σ [.ref (ad 30 0), .int a1, .int a2, .int a3]) (PoI g ad χ T (rr.1) rr.2) 0 0 (geB g) := by
  refine j_metW (by decide) (Nat.le_of_ble_eq_true rfl) fun p e s m below meth c C hname => ?_
  rw [f_X11_forge] at h
  exact j_sub [0, 1, 2, 3] rfl (t_X11_forge_0 C σ a1 a2 a3 h)
set_option maxRecDepth 100000 in
set_option maxHeartbeats 4000000 in
theorem t_X11_status_0 {χ : Mem} {T : Nat → Mem} {σ : Mem} (C : Cx p s m args meth c cX11_status 1 RX11 (some .int) COM g) {rr : Int32} (h : f_X11_status_0 σ = some rr) : JJ p l e rm_X11_status s m args below meth c 1 g ad (MQ below (PoI g ad χ T σ rr) args s 0 0 (geB g)) χ T σ 0 0 [(0, .ref (ad 30 0))] 0 [] := by
  rw [f_X11_status_0] at h
  refine j_aload_n C 0 rfl rfl dX11_status_0 ?_
  refine j_getG C in_X11 (by decide) cw_30 rfl 30 (by decide) mw_1035 (fun _ h => h) rfl dX11_status_1 ?_
  obtain rfl := Option.some.inj h
  exact j_iret C rfl rfl (Nat.le_refl _) (Nat.le_refl _) dX11_status_4
set_option maxRecDepth 100000 in
set_option maxHeartbeats 4000000 in
theorem c_X11_status {l : Launch} {g : Gc} {ad : Nat → Nat → Nat} {χ : Mem} {T : Nat → Mem} {σ : Mem} {rr : Int32} (h : f_X11_status σ = some rr) : Met l yX11_status (WS yX11_status cX11_status 1 (some .int)) rm_X11_status (PreW g ad χ T σ [.ref (ad 30 0)]) (PoI g ad χ T σ rr) 0 0 (geB g) := by
  refine j_metW (by decide) (Nat.le_of_ble_eq_true rfl) fun p e s m below meth c C hname => ?_
  rw [f_X11_status] at h
  exact j_sub [0] rfl (t_X11_status_0 C h)
end
