abbrev rm_X10_move : Room := { frames := 10, cells := 80, slots := 1680, locals := 238 }
def f_X10_move_66 (χ : Mem) (T : Nat → Mem) (v2 : Int32) (v3 : Int32) (v4 : Nat) : Option ((Mem × (Nat → Mem)) × Int32) :=
  ((f_X10_renew (wI (wI χ 1 v4 v2) 2 v4 v3) T).bind fun q1 => some ((q1.1, q1.2), (1 : Int32)))
def f_X10_move_0 (χ : Mem) (T : Nat → Mem) (a1 : Int32) (a2 : Int32) (a3 : Int32) : Option ((Mem × (Nat → Mem)) × Int32) :=
  ((f_X2_isPin χ a1).bind fun q1 => (if q1 = 0 then some ((χ, T), (-2 : Int32)) else ((f_X10_isPlace a2 a3).bind fun q3 => (if q3 = 0 then some ((χ, T), (-2 : Int32)) else (if inB a1 (lsz χ 0) = true then ((f_X2_pinAt χ a2 a3).bind fun q7 => (match q7 with | none => f_X10_move_66 χ T a2 a3 (gN χ 0 a1.toNatClampNeg) | some i8 => (if i8 < gN χ 8 0 then (if i8 = (gN χ 0 a1.toNatClampNeg) then f_X10_move_66 χ T a2 a3 (gN χ 0 a1.toNatClampNeg) else some ((χ, T), (-3 : Int32))) else none))) else none)))))
def f_X10_move (χ : Mem) (T : Nat → Mem) (a1 : Int32) (a2 : Int32) (a3 : Int32) : Option ((Mem × (Nat → Mem)) × Int32) :=
  f_X10_move_0 χ T a1 a2 a3
abbrev rm_X10_pin : Room := { frames := 10, cells := 82, slots := 1707, locals := 238 }
def f_X10_pin_0 (χ : Mem) (T : Nat → Mem) (a1 : Int32) (a2 : Int32) : Option ((Mem × (Nat → Mem)) × Int32) :=
  ((f_X10_isPlace a1 a2).bind fun q1 => (if q1 = 0 then some ((χ, T), (-2 : Int32)) else ((f_X2_pinAt χ a1 a2).bind fun q3 => (match q3 with | none => (if (gI χ 14 0) < (6 : Int32) then (if lsz (mkPin (wN χ 8 3 1) (gI (wN χ 8 3 1) 14 0) a1 a2) 0 < 15 then ((f_X10_renew (lAdd (mkPin (wN χ 8 3 1) (gI (wN χ 8 3 1) 14 0) a1 a2) 0 (gN χ 8 0)) T).bind fun q12 => some ((q12.1, q12.2), (gI q12.1 14 0) - (1 : Int32))) else none) else some ((χ, T), (-4 : Int32))) | some i4 => some ((χ, T), (-3 : Int32))))))
def f_X10_pin (χ : Mem) (T : Nat → Mem) (a1 : Int32) (a2 : Int32) : Option ((Mem × (Nat → Mem)) × Int32) :=
  f_X10_pin_0 χ T a1 a2
abbrev rm_X10_rod : Room := { frames := 10, cells := 82, slots := 1707, locals := 238 }
def f_X10_rod_0 (χ : Mem) (T : Nat → Mem) (a1 : Int32) (a2 : Int32) (a3 : Int32) (a4 : Int32) : Option ((Mem × (Nat → Mem)) × Int32) :=
  (if a1 < 0 then some ((χ, T), (-2 : Int32)) else (if (5 : Int32) ≤ a1 then some ((χ, T), (-2 : Int32)) else ((f_X10_isPriceOf a1 a4).bind fun q3 => (if q3 = 0 then some ((χ, T), (-2 : Int32)) else ((f_X2_isPin χ a2).bind fun q5 => (if q5 = 0 then some ((χ, T), (-2 : Int32)) else ((f_X2_isPin χ a3).bind fun q7 => (if q7 = 0 then some ((χ, T), (-2 : Int32)) else (if a2 = a3 then some ((χ, T), (-2 : Int32)) else (if inB a2 (lsz χ 0) = true then (if inB a3 (lsz χ 0) = true then ((f_X2_areJoined χ (gN χ 0 a2.toNatClampNeg) (gN χ 0 a3.toNatClampNeg)).bind fun q14 => (if q14 = 0 then (if (gI χ 14 1) < (15 : Int32) then (if lsz (mkRod (wN χ 8 3 2) (gI (wN χ 8 3 2) 14 1) a1 (gN χ 0 a2.toNatClampNeg) (gN χ 0 a3.toNatClampNeg) a4) 1 < 15 then ((f_X10_renew (lAdd (mkRod (wN χ 8 3 2) (gI (wN χ 8 3 2) 14 1) a1 (gN χ 0 a2.toNatClampNeg) (gN χ 0 a3.toNatClampNeg) a4) 1 (gN χ 8 1)) T).bind fun q23 => some ((q23.1, q23.2), (gI q23.1 14 1) - (1 : Int32))) else none) else some ((χ, T), (-4 : Int32))) else some ((χ, T), (-3 : Int32)))) else none) else none))))))))))
def f_X10_rod (χ : Mem) (T : Nat → Mem) (a1 : Int32) (a2 : Int32) (a3 : Int32) (a4 : Int32) : Option ((Mem × (Nat → Mem)) × Int32) :=
  f_X10_rod_0 χ T a1 a2 a3 a4
abbrev rm_X9_isThing : Room := { frames := 3, cells := 0, slots := 0, locals := 61 }
def f_X9_isThing_0 (χ : Mem) (T : Nat → Mem) (a1 : Int32) (a2 : Int32) : Option (Int32) :=
  (if a1.toInt < 0 ∨ 4 < a1.toInt then some (0 : Int32) else (if a1 = (0 : Int32) then some (1 : Int32) else (if a1 = (1 : Int32) then ((f_X2_isRod χ a2).bind fun q4 => (if q4 = 0 ∨ q4 = 1 then some q4 else none)) else (if a1 = (2 : Int32) then ((f_X0_isMotion χ T a2).bind fun q7 => (if q7 = 0 ∨ q7 = 1 then some q7 else none)) else (if a1 = (3 : Int32) then some (1 : Int32) else (if a1 = (4 : Int32) then some (1 : Int32) else none))))))
def f_X9_isThing (χ : Mem) (T : Nat → Mem) (a1 : Int32) (a2 : Int32) : Option (Int32) :=
  f_X9_isThing_0 χ T a1 a2
abbrev rm_X9_rowOf : Room := { frames := 0, cells := 0, slots := 0, locals := 0 }
def f_X9_rowOf_0 (χ : Mem) (a1 : Nat) (a2 : Int32) : Option (Option Nat) :=
  (if TVb χ a1 = true then (if (if a1 ≠ 0 ∧ a1 % 2 = 0 then (1 : Int32) else (0 : Int32)) = 0 then some none else (if a1 ≠ 0 ∧ a1 % 2 = 0 then (if (gI χ 16 (a1 / 2 - 1)) = a2 then some (some (a1 / 2 - 1)) else some none) else none)) else none)
def f_X9_rowOf (χ : Mem) (a1 : Nat) (a2 : Int32) : Option (Option Nat) :=
  f_X9_rowOf_0 χ a1 a2
abbrev rm_X9_refuseRow : Room := { frames := 1, cells := 0, slots := 0, locals := 21 }
def f_X9_refuseRow_12 (χ : Mem) (T : Nat → Mem) (s0 : Int32) : Option ((Mem × (Nat → Mem)) × Int32) :=
  ((f_X9_refuse χ T s0).bind fun q1 => some ((q1.1.1, q1.1.2), q1.2))
def f_X9_refuseRow_0 (χ : Mem) (T : Nat → Mem) (a1 : Nat) : Option ((Mem × (Nat → Mem)) × Int32) :=
  (if a1 = 0 then f_X9_refuseRow_12 χ T (10 : Int32) else f_X9_refuseRow_12 χ T (11 : Int32))
def f_X9_refuseRow (χ : Mem) (T : Nat → Mem) (a1 : Nat) : Option ((Mem × (Nat → Mem)) × Int32) :=
  f_X9_refuseRow_0 χ T a1
abbrev rm_X9_firstPinAs : Room := { frames := 1, cells := 0, slots := 0, locals := 21 }
def f_X9_firstPinAs_43 (χ : Mem) (T : Nat → Mem) : Option ((Mem × (Nat → Mem)) × Int32) :=
  ((f_X9_refuse χ T (11 : Int32)).bind fun q1 => some ((q1.1.1, q1.1.2), q1.2))
def f_X9_firstPinAs_0 (χ : Mem) (T : Nat → Mem) (a1 : Nat) (a2 : Int32) : Option ((Mem × (Nat → Mem)) × Int32) :=
  (if a1 = 0 then ((f_X9_refuse χ T (10 : Int32)).bind fun q2 => some ((q2.1.1, q2.1.2), q2.2)) else (if TVb χ a1 = true then (if (if a1 % 2 = 1 then (1 : Int32) else (0 : Int32)) = 0 then f_X9_firstPinAs_43 χ T else (if a1 % 2 = 1 then ((f_X5_isOf χ (a1 / 2) a2).bind fun q6 => (if q6 = 0 then f_X9_firstPinAs_43 χ T else ((f_X9_done χ T (gI χ 0 (gN χ 6 (a1 / 2)))).bind fun q9 => some ((q9.1.1, q9.1.2), q9.2)))) else none)) else none))
def f_X9_firstPinAs (χ : Mem) (T : Nat → Mem) (a1 : Nat) (a2 : Int32) : Option ((Mem × (Nat → Mem)) × Int32) :=
  f_X9_firstPinAs_0 χ T a1 a2
abbrev rm_X9_howManyAre : Room := { frames := 2, cells := 0, slots := 0, locals := 42 }
def f_X9_howManyAre_22 : Nat → Mem → (Nat → Mem) → Int32 → Nat → Int32 → Int32 → Option ((Mem × (Nat → Mem)) × Int32)
  | 0, _, _, _, _, _, _ => none
  | n + 1, χ, T, v2, v3, v4, v5 => (if (nI (gN χ 9 v3)) ≤ v5 then ((f_X9_done χ T v4).bind fun q2 => some ((q2.1.1, q2.1.2), q2.2)) else (if inB v5 (gN χ 9 v3) = true then (if (gL χ v3 v5.toNatClampNeg) = v2.toInt64 then f_X9_howManyAre_22 n χ T v2 v3 (v4 + (1 : Int32)) (v5 + (1 : Int32)) else f_X9_howManyAre_22 n χ T v2 v3 v4 (v5 + (1 : Int32))) else none))
def f_X9_howManyAre_0 (χ : Mem) (T : Nat → Mem) (a1 : Nat) (a2 : Int32) : Option ((Mem × (Nat → Mem)) × Int32) :=
  ((f_X9_rowOf χ a1 (2 : Int32)).bind fun q1 => (match q1 with | none => ((f_X9_refuseRow χ T a1).bind fun q4 => some ((q4.1.1, q4.1.2), q4.2)) | some i2 => (if i2 < gN χ 8 2 then f_X9_howManyAre_22 FU χ T a2 i2 (0 : Int32) (0 : Int32) else none)))
def f_X9_howManyAre (χ : Mem) (T : Nat → Mem) (a1 : Nat) (a2 : Int32) : Option ((Mem × (Nat → Mem)) × Int32) :=
  f_X9_howManyAre_0 χ T a1 a2
abbrev rm_X9_numberAt : Room := { frames := 2, cells := 0, slots := 0, locals := 42 }
def f_X9_numberAt_32 (χ : Mem) (T : Nat → Mem) : Option ((Mem × (Nat → Mem)) × Int32) :=
  ((f_X9_refuse χ T (12 : Int32)).bind fun q1 => some ((q1.1.1, q1.1.2), q1.2))
def f_X9_numberAt_0 (χ : Mem) (T : Nat → Mem) (a1 : Nat) (a2 : Int32) (a3 : Int32) : Option ((Mem × (Nat → Mem)) × Int32) :=
  ((f_X9_rowOf χ a1 a2).bind fun q1 => (match q1 with | none => ((f_X9_refuseRow χ T a1).bind fun q4 => some ((q4.1.1, q4.1.2), q4.2)) | some i2 => (if i2 < gN χ 8 2 then (if a3 < 0 then f_X9_numberAt_32 χ T else (if a3 < (nI (gN χ 9 i2)) then (if inB a3 (gN χ 9 i2) = true then ((f_X9_done χ T ((gL χ i2 a3.toNatClampNeg).toInt32)).bind fun q8 => some ((q8.1.1, q8.1.2), q8.2)) else none) else f_X9_numberAt_32 χ T)) else none)))
def f_X9_numberAt (χ : Mem) (T : Nat → Mem) (a1 : Nat) (a2 : Int32) (a3 : Int32) : Option ((Mem × (Nat → Mem)) × Int32) :=
  f_X9_numberAt_0 χ T a1 a2 a3
abbrev rm_X9_sumOfCopied : Room := { frames := 2, cells := 0, slots := 0, locals := 42 }
def f_X9_sumOfCopied_52 : Nat → Mem → (Nat → Mem) → Int32 → Nat → Int32 → Int32 → Option ((Mem × (Nat → Mem)) × Int32)
  | 0, _, _, _, _, _, _ => none
  | n + 1, χ, T, v2, v3, v4, v5 => (if v2 < v5 then ((f_X9_done χ T v4).bind fun q2 => some ((q2.1.1, q2.1.2), q2.2)) else (if inB v5 (gN χ 9 v3) = true then f_X9_sumOfCopied_52 n χ T v2 v3 (v4 + ((gL χ v3 v5.toNatClampNeg).toInt32)) (v5 + (1 : Int32)) else none))
def f_X9_sumOfCopied_39 (χ : Mem) (T : Nat → Mem) : Option ((Mem × (Nat → Mem)) × Int32) :=
  ((f_X9_refuse χ T (12 : Int32)).bind fun q1 => some ((q1.1.1, q1.1.2), q1.2))
def f_X9_sumOfCopied_0 (χ : Mem) (T : Nat → Mem) (a1 : Nat) (a2 : Int32) : Option ((Mem × (Nat → Mem)) × Int32) :=
  ((f_X9_rowOf χ a1 (3 : Int32)).bind fun q1 => (match q1 with | none => ((f_X9_refuseRow χ T a1).bind fun q4 => some ((q4.1.1, q4.1.2), q4.2)) | some i2 => (if i2 < gN χ 8 2 then (if a2 < 0 then f_X9_sumOfCopied_39 χ T else (if (nI (gN χ 9 i2)) < ((1 : Int32) + a2) then f_X9_sumOfCopied_39 χ T else (if (a2 + a2) ≤ (9 : Int32) then f_X9_sumOfCopied_52 FU χ T a2 i2 (0 : Int32) (1 : Int32) else f_X9_sumOfCopied_39 χ T))) else none)))
def f_X9_sumOfCopied (χ : Mem) (T : Nat → Mem) (a1 : Nat) (a2 : Int32) : Option ((Mem × (Nat → Mem)) × Int32) :=
  f_X9_sumOfCopied_0 χ T a1 a2
abbrev rm_X9_priceAsSpare : Room := { frames := 1, cells := 0, slots := 0, locals := 21 }
def f_X9_priceAsSpare_39 (χ : Mem) (T : Nat → Mem) : Option ((Mem × (Nat → Mem)) × Int32) :=
  ((f_X9_refuse χ T (14 : Int32)).bind fun q1 => some ((q1.1.1, q1.1.2), q1.2))
def f_X9_priceAsSpare_0 (χ : Mem) (T : Nat → Mem) (a1 : Nat) : Option ((Mem × (Nat → Mem)) × Int32) :=
  (if a1 = 0 then ((f_X9_done χ T (0 : Int32)).bind fun q2 => some ((q2.1.1, q2.1.2), q2.2)) else (if TVb χ a1 = true then (if (if a1 % 2 = 1 then (1 : Int32) else (0 : Int32)) = 0 then f_X9_priceAsSpare_39 χ T else (if a1 % 2 = 1 then ((f_X5_isOf χ (a1 / 2) (3 : Int32)).bind fun q6 => (if q6 = 0 then f_X9_priceAsSpare_39 χ T else ((f_X9_done χ T (gI χ 8 (a1 / 2))).bind fun q8 => some ((q8.1.1, q8.1.2), q8.2)))) else none)) else none))
def f_X9_priceAsSpare (χ : Mem) (T : Nat → Mem) (a1 : Nat) : Option ((Mem × (Nat → Mem)) × Int32) :=
  f_X9_priceAsSpare_0 χ T a1
abbrev rm_X9_motionRow : Room := { frames := 4, cells := 2, slots := 17, locals := 89 }
def f_X9_motionRow_25 : Nat → Mem → (Nat → Mem) → Int32 → Nat → Int32 → Option ((Mem × (Nat → Mem)) × Option Nat)
  | 0, _, _, _, _, _ => none
  | n + 1, χ, T, v1, v2, v3 => (if (nI (gN χ 9 v2)) ≤ v3 then some ((χ, T), some v2) else (if inB (v3 / (2 : Int32)) (lsz χ 0) = true then ((f_X0_motionNumber χ T v1 (gN χ 0 (v3 / (2 : Int32)).toNatClampNeg) (v3 - v3 / (2 : Int32) * (2 : Int32))).bind fun q4 => (if inB v3 (gN χ 9 v2) = true then f_X9_motionRow_25 n (wL χ v2 v3.toNatClampNeg q4) T v1 v2 (v3 + (1 : Int32)) else none)) else none))
def f_X9_motionRow_0 (χ : Mem) (T : Nat → Mem) (a1 : Int32) : Option ((Mem × (Nat → Mem)) × Option Nat) :=
  (if inB ((2 : Int32) * (gI (wN χ 8 3 3) 14 0)) 16 = true then f_X9_motionRow_25 16 (mkRow (wN χ 8 3 3) (2 : Int32) ((2 : Int32) * (gI (wN χ 8 3 3) 14 0)).toNatClampNeg) T a1 (gN χ 8 2) (0 : Int32) else none)
def f_X9_motionRow (χ : Mem) (T : Nat → Mem) (a1 : Int32) : Option ((Mem × (Nat → Mem)) × Option Nat) :=
  f_X9_motionRow_0 χ T a1
abbrev rm_X9_rodRow : Room := { frames := 3, cells := 2, slots := 17, locals := 65 }
def f_X9_rodRow_23 : Nat → Mem → (Nat → Mem) → Int32 → Nat → Int32 → Option ((Mem × (Nat → Mem)) × Option Nat)
  | 0, _, _, _, _, _ => none
  | n + 1, χ, T, v1, v2, v3 => (if (nI (gN χ 9 v2)) ≤ v3 then some ((χ, T), some v2) else (if inB v3 (lsz χ 1) = true then (if v1 = (3 : Int32) then (if inB v3 (gN χ 9 v2) = true then f_X9_rodRow_23 n (wL χ v2 v3.toNatClampNeg ((gI χ 8 (gN χ 1 v3.toNatClampNeg)).toInt64)) T v1 v2 (v3 + (1 : Int32)) else none) else (if (gI χ 9 (gN χ 1 v3.toNatClampNeg)) = 0 then (if inB v3 (gN χ 9 v2) = true then f_X9_rodRow_23 n (wL χ v2 v3.toNatClampNeg (0 : Int64)) T v1 v2 (v3 + (1 : Int32)) else none) else (if inB v3 (gN χ 9 v2) = true then f_X9_rodRow_23 n (wL χ v2 v3.toNatClampNeg (1 : Int64)) T v1 v2 (v3 + (1 : Int32)) else none))) else none))
def f_X9_rodRow_0 (χ : Mem) (T : Nat → Mem) (a1 : Int32) : Option ((Mem × (Nat → Mem)) × Option Nat) :=
  (if inB (gI (wN χ 8 3 3) 14 1) 16 = true then f_X9_rodRow_23 16 (mkRow (wN χ 8 3 3) a1 (gI (wN χ 8 3 3) 14 1).toNatClampNeg) T a1 (gN χ 8 2) (0 : Int32) else none)
def f_X9_rodRow (χ : Mem) (T : Nat → Mem) (a1 : Int32) : Option ((Mem × (Nat → Mem)) × Option Nat) :=
  f_X9_rodRow_0 χ T a1
abbrev rm_X9_thingFor : Room := { frames := 5, cells := 2, slots := 17, locals := 112 }
def f_X9_thingFor_0 (χ : Mem) (T : Nat → Mem) (a1 : Int32) (a2 : Int32) : Option ((Mem × (Nat → Mem)) × Nat) :=
  (if a1.toInt < 1 ∨ 4 < a1.toInt then some ((χ, T), 0) else (if a1 = (1 : Int32) then ((f_X2_isRod χ a2).bind fun q3 => (if q3 = 0 then some ((χ, T), 0) else (if inB a2 (lsz χ 1) = true then some ((χ, T), 2 * (gN χ 1 a2.toNatClampNeg) + 1) else none))) else (if a1 = (2 : Int32) then ((f_X9_motionRow χ T a2).bind fun q8 => some ((q8.1.1, q8.1.2), thO q8.2)) else (if a1 = (3 : Int32) then ((f_X9_rodRow χ T (3 : Int32)).bind fun q12 => some ((q12.1.1, q12.1.2), thO q12.2)) else (if a1 = (4 : Int32) then ((f_X9_rodRow χ T (4 : Int32)).bind fun q16 => some ((q16.1.1, q16.1.2), thO q16.2)) else none)))))
def f_X9_thingFor (χ : Mem) (T : Nat → Mem) (a1 : Int32) (a2 : Int32) : Option ((Mem × (Nat → Mem)) × Nat) :=
  f_X9_thingFor_0 χ T a1 a2
abbrev rm_X9_fill : Room := { frames := 6, cells := 2, slots := 17, locals := 134 }
def f_X9_fill_16 (χ : Mem) (T : Nat → Mem) : Option ((Mem × (Nat → Mem)) × Int32) :=
  ((f_X9_refuse χ T (1 : Int32)).bind fun q1 => some ((q1.1.1, q1.1.2), q1.2))
def f_X9_fill_0 (χ : Mem) (T : Nat → Mem) (a1 : Int32) (a2 : Int32) (a3 : Int32) : Option ((Mem × (Nat → Mem)) × Int32) :=
  ((f_X9_isTray a1).bind fun q1 => (if q1 = 0 then f_X9_fill_16 χ T else ((f_X9_isThing χ T a2 a3).bind fun q3 => (if q3 = 0 then f_X9_fill_16 χ T else ((f_X9_thingFor χ T a2 a3).bind fun q5 => (if inB a1 6 = true then (if TVb q5.1.1 q5.2 = true then ((f_X9_done (wN q5.1.1 10 a1.toNatClampNeg q5.2) q5.1.2 (1 : Int32)).bind fun q10 => some ((q10.1.1, q10.1.2), q10.2)) else none) else none))))))
def f_X9_fill (χ : Mem) (T : Nat → Mem) (a1 : Int32) (a2 : Int32) (a3 : Int32) : Option ((Mem × (Nat → Mem)) × Int32) :=
  f_X9_fill_0 χ T a1 a2 a3
abbrev rm_X9_work : Room := { frames := 3, cells := 0, slots := 0, locals := 67 }
def f_X9_work_19 (χ : Mem) (T : Nat → Mem) : Option ((Mem × (Nat → Mem)) × Int32) :=
  ((f_X9_refuse χ T (1 : Int32)).bind fun q1 => some ((q1.1.1, q1.1.2), q1.2))
def f_X9_work_0 (χ : Mem) (T : Nat → Mem) (a1 : Int32) (a2 : Int32) (a3 : Int32) : Option ((Mem × (Nat → Mem)) × Int32) :=
  ((f_X9_isTray a1).bind fun q1 => (if q1 = 0 then f_X9_work_19 χ T else (if a3 < (-100 : Int32) then f_X9_work_19 χ T else (if a3 ≤ (100 : Int32) then (if inB a1 6 = true then (if a2.toInt < 0 ∨ 8 < a2.toInt then ((f_X9_refuse χ T (1 : Int32)).bind fun q7 => some ((q7.1.1, q7.1.2), q7.2)) else (if a2 = (0 : Int32) then ((f_J9_floorMod_7cf53 a3 (5 : Int32)).bind fun q9 => ((f_X9_firstPinAs χ T (gN χ 10 a1.toNatClampNeg) q9).bind fun q10 => some ((q10.1.1, q10.1.2), q10.2))) else (if a2 = (1 : Int32) then ((f_X9_howManyAre χ T (gN χ 10 a1.toNatClampNeg) a3).bind fun q12 => some ((q12.1.1, q12.1.2), q12.2)) else (if a2 = (2 : Int32) then ((f_X9_numberAt χ T (gN χ 10 a1.toNatClampNeg) (3 : Int32) a3).bind fun q14 => some ((q14.1.1, q14.1.2), q14.2)) else (if a2 = (3 : Int32) then ((f_X9_numberAt χ T (gN χ 10 a1.toNatClampNeg) (4 : Int32) a3).bind fun q16 => some ((q16.1.1, q16.1.2), q16.2)) else (if a2 = (4 : Int32) then (if 0 ≤ a3 then ((f_X9_done χ T a3).bind fun q19 => some ((q19.1.1, q19.1.2), q19.2)) else ((f_X9_refuse χ T (13 : Int32)).bind fun q20 => some ((q20.1.1, q20.1.2), q20.2))) else (if a2 = (5 : Int32) then ((f_X9_sumOfCopied χ T (gN χ 10 a1.toNatClampNeg) a3).bind fun q22 => some ((q22.1.1, q22.1.2), q22.2)) else (if a2 = (6 : Int32) then ((f_X9_priceAsSpare χ T (gN χ 10 a1.toNatClampNeg)).bind fun q24 => some ((q24.1.1, q24.1.2), q24.2)) else (if a2 = (7 : Int32) then (if a3 = 0 then ((f_X9_refuse χ T (15 : Int32)).bind fun q29 => some ((q29.1.1, q29.1.2), q29.2)) else (if a3 = 0 then none else ((f_X9_done χ T ((1000 : Int32) / a3)).bind fun q28 => some ((q28.1.1, q28.1.2), q28.2)))) else (if a2 = (8 : Int32) then ((f_X9_refuse χ T (10 : Int32)).bind fun q31 => some ((q31.1.1, q31.1.2), q31.2)) else none)))))))))) else none) else f_X9_work_19 χ T))))
def f_X9_work (χ : Mem) (T : Nat → Mem) (a1 : Int32) (a2 : Int32) (a3 : Int32) : Option ((Mem × (Nat → Mem)) × Int32) :=
  f_X9_work_0 χ T a1 a2 a3
abbrev rm_X10_tray : Room := { frames := 7, cells := 2, slots := 17, locals := 157 }
def f_X10_tray_0 (χ : Mem) (T : Nat → Mem) (a1 : Int32) (a2 : Int32) (a3 : Int32) : Option ((Mem × (Nat → Mem)) × Int32) :=
  ((f_X9_fill χ T a1 a2 a3).bind fun q1 => some ((q1.1.1, q1.1.2), q1.2))
def f_X10_tray (χ : Mem) (T : Nat → Mem) (a1 : Int32) (a2 : Int32) (a3 : Int32) : Option ((Mem × (Nat → Mem)) × Int32) :=
  f_X10_tray_0 χ T a1 a2 a3
abbrev rm_X10_forge : Room := { frames := 4, cells := 0, slots := 0, locals := 91 }
def f_X10_forge_0 (χ : Mem) (T : Nat → Mem) (a1 : Int32) (a2 : Int32) (a3 : Int32) : Option ((Mem × (Nat → Mem)) × Int32) :=
  ((f_X9_work χ T a1 a2 a3).bind fun q1 => some ((q1.1.1, q1.1.2), q1.2))
def f_X10_forge (χ : Mem) (T : Nat → Mem) (a1 : Int32) (a2 : Int32) (a3 : Int32) : Option ((Mem × (Nat → Mem)) × Int32) :=
  f_X10_forge_0 χ T a1 a2 a3
section
variable {p : Program} {l : Launch} {e : Env} {s : State} {m : MethodId} {args : Array Value} {below : List Frame} {meth : Method} {c : Code} {g : Gc} {ad : Nat → Nat → Nat}
set_option maxRecDepth 100000 in
set_option maxHeartbeats 4000000 in
theorem t_X10_move_66 {σ : Mem} (C : Cx p s m args meth c cX10_move 6 RX10 (some .int) COM g) {rr : (Mem × (Nat → Mem)) × Int32} (cl sl : Nat) (hcs : cl + (80) ≤ 80 ∧ sl + (1680) ≤ 1680) (χ : Mem) (T : Nat → Mem) (v2 : Int32) (v3 : Int32) (v4 : Nat) (hv4 : v4 < gN χ 8 0) (h : f_X10_move_66 χ T v2 v3 v4 = some rr) : JJ p l e rm_X10_move s m args below meth c 6 g ad (MQ below (PoI g ad rr.1.1 rr.1.2 σ rr.2) args s 80 1680 (geB g)) χ T σ cl sl [(0, .ref (ad 0 0)), (2, .int v2), (3, .int v3), (4, .ref (ad 18 v4))] 66 [] := by
  rw [f_X10_move_66] at h
  refine j_aload C 3 rfl dX10_move_66 ?_
  refine j_iload_n C 1 rfl rfl dX10_move_68 ?_
  refine j_putI C in_X4 tyX4_ok nmX4 rfl 1 (by decide) (by decide) (po_Pin_x (χ := χ) hv4 v2) mw_338 (fun _ h => h) rfl (tyX4_ok 1 (by decide)) (Nat.le_of_ble_eq_true rfl) dX10_move_69 ?_
  refine j_aload C 3 rfl dX10_move_72 ?_
  refine j_iload_n C 2 rfl rfl dX10_move_74 ?_
  refine j_putI C in_X4 tyX4_ok nmX4 rfl 2 (by decide) (by decide) (po_Pin_y (χ := (wI χ 1 v4 v2)) hv4 v3) mw_342 (fun _ h => h) rfl (tyX4_ok 2 (by decide)) (Nat.le_of_ble_eq_true rfl) dX10_move_75 ?_
  refine j_aload_n C 0 rfl rfl dX10_move_78 ?_
  obtain ⟨q1, hq1, h⟩ := bi_some h
  refine j_callVv (As := []) (rest := []) C (c_X10_renew hq1) (cwV 0 C.ts (good_V mw_430 mw_432 mw_3 mw_63 mw_433) rfl rfl rfl (by decide +kernel) ⟨Nat.le_of_ble_eq_true rfl, Nat.le_of_ble_eq_true rfl⟩) (fun H hW => CW.rv C.k hW (by decide) cw_0 rfl) rfl rfl (Nat.le_of_ble_eq_true rfl) dX10_move_79 ⟨(by show _ ≤ 80; omega), (by show _ ≤ 1680; omega)⟩ ?_
  refine j_iconst (v := 1) C (by decide) dX10_move_82 ?_
  obtain rfl := Option.some.inj h
  exact j_iret C rfl rfl (by omega) (by omega) dX10_move_83
set_option maxRecDepth 100000 in
set_option maxHeartbeats 4000000 in
theorem t_X10_move_0 {σ : Mem} (C : Cx p s m args meth c cX10_move 6 RX10 (some .int) COM g) {rr : (Mem × (Nat → Mem)) × Int32} (cl sl : Nat) (hcs : cl + (80) ≤ 80 ∧ sl + (1680) ≤ 1680) (χ : Mem) (T : Nat → Mem) (a1 : Int32) (a2 : Int32) (a3 : Int32) (h : f_X10_move_0 χ T a1 a2 a3 = some rr) : JJ p l e rm_X10_move s m args below meth c 6 g ad (MQ below (PoI g ad rr.1.1 rr.1.2 σ rr.2) args s 80 1680 (geB g)) χ T σ cl sl [(0, .ref (ad 0 0)), (1, .int a1), (2, .int a2), (3, .int a3)] 0 [] := by
  rw [f_X10_move_0] at h
  refine j_aload_n C 0 rfl rfl dX10_move_0 ?_
  refine j_getG C in_X10 (by decide) cw_0 rfl 0 (by decide) mw_268 (fun _ h => h) rfl dX10_move_1 ?_
  refine j_iload_n C 1 rfl rfl dX10_move_4 ?_
  obtain ⟨q1, hq1, h⟩ := bi_some h
  refine j_callVi (As := [.int a1]) (rest := []) C (c_X2_isPin hq1) (cwV 1 C.ts (good_V mw_615 mw_616 mw_617 mw_64 mw_618) rfl rfl rfl (by decide +kernel) ⟨Nat.le_of_ble_eq_true rfl, Nat.le_of_ble_eq_true rfl⟩) (fun H hW => CW.rv C.k hW (by decide) cw_1 rfl) rfl rfl (Nat.le_of_ble_eq_true rfl) dX10_move_5 ⟨(by show _ ≤ 80; omega), (by show _ ≤ 1680; omega)⟩ ?_
  refine j_if_eq (tgt := 19) C (by decide) dX10_move_8 (fun hc2 => ?_) (fun hc2 => ?_)
  · replace h := (if_pos hc2).symm.trans h
    refine j_bipush (v := -2) C (by decide) dX10_move_19 ?_
    obtain rfl := Option.some.inj h
    exact j_iret C rfl rfl (by omega) (by omega) dX10_move_21
  · replace h := (if_neg hc2).symm.trans h
    refine j_iload_n C 2 rfl rfl dX10_move_11 ?_
    refine j_iload_n C 3 rfl rfl dX10_move_12 ?_
    obtain ⟨q3, hq3, h⟩ := bi_some h
    refine j_callSi (As := [.int a2, .int a3]) (rest := []) C (c_X10_isPlace hq3) (va_cwS 2 C.ts (good_S mw_288 mw_289 mw_63 mw_290) rfl rfl rfl (by decide +kernel) ⟨Nat.le_of_ble_eq_true rfl, Nat.le_of_ble_eq_true rfl⟩) rfl rfl (Nat.le_of_ble_eq_true rfl) dX10_move_13 ⟨(by show _ ≤ 80; omega), (by show _ ≤ 1680; omega)⟩ ?_
    refine j_if_ne (tgt := 22) C (by decide) dX10_move_16 (fun hc4 => ?_) (fun hc4 => ?_)
    · replace h := (if_neg hc4).symm.trans h
      refine j_aload_n C 0 rfl rfl dX10_move_22 ?_
      refine j_getG C in_X10 (by decide) cw_0 rfl 0 (by decide) mw_268 (fun _ h => h) rfl dX10_move_23 ?_
      refine j_getG C in_X2 (by decide) cw_1 rfl 0 (by decide) mw_125 (fun _ h => h) rfl dX10_move_26 ?_
      refine j_iload_n C 1 rfl rfl dX10_move_29 ?_
      obtain ⟨hg5, h⟩ := gd_some h
      refine j_wt (fun wt6 => ?_)
      refine j_lgetK (ek := 18) C (by decide) (by decide) hg5 mw_620 ⟨Nat.le_of_ble_eq_true rfl, Nat.le_of_ble_eq_true rfl⟩ (Nat.le_of_ble_eq_true rfl) dX10_move_30 ⟨(by show _ ≤ 80; omega), (by show _ ≤ 1680; omega)⟩ ?_
      refine j_castS (q := (RX4, TX4, 6)) C mw_327 (by decide) (cw_18 (χ := χ) (wt_18 wt6 (by decide) (by decide) hg5)) rfl dX10_move_35 ?_
      refine j_astore (L' := [(4, .ref (ad 18 (gN χ 0 a1.toNatClampNeg))), (0, .ref (ad 0 0)), (1, .int a1), (2, .int a2), (3, .int a3)]) C (by decide) rfl dX10_move_38 ?_
      refine j_aload_n C 1 rfl rfl dX10_move_40 ?_
      refine j_getG C in_X10 (by decide) cw_0 rfl 0 (by decide) mw_268 (fun _ h => h) rfl dX10_move_41 ?_
      refine j_iload_n C 3 rfl rfl dX10_move_44 ?_
      refine j_iload_n C 4 rfl rfl dX10_move_45 ?_
      obtain ⟨q7, hq7, h⟩ := bi_some h
      refine j_callVq (As := [.int a2, .int a3]) (rest := []) C (c_X2_pinAt hq7) (cwV 2 C.ts (good_V mw_291 mw_292 mw_293 mw_64 mw_294) rfl rfl rfl (by decide +kernel) ⟨Nat.le_of_ble_eq_true rfl, Nat.le_of_ble_eq_true rfl⟩) (fun H hW => CW.rv C.k hW (by decide) cw_1 rfl) rfl rfl (Nat.le_of_ble_eq_true rfl) dX10_move_46 ⟨(by show _ ≤ 80; omega), (by show _ ≤ 1680; omega)⟩ ?_
      refine j_astoreR (L' := [(5, va_rf ((q7).map (ad 18))), (4, .ref (ad 18 (gN χ 0 a1.toNatClampNeg))), (0, .ref (ad 0 0)), (1, .int a1), (2, .int a2), (3, .int a3)]) C (by decide) rfl dX10_move_49 ?_
      refine j_aloadR C 0 rfl dX10_move_51 ?_
      cases q7 with
      | none =>
        dsimp only at h
        refine j_ifnullN (tgt := 66) C (by decide) dX10_move_53 ?_
        exact j_sub [2, 4, 5, 1] rfl (t_X10_move_66 C _ _ ⟨by omega, by omega⟩ χ T a2 a3 (gN χ 0 a1.toNatClampNeg) (wt_18 wt6 (by decide) (by decide) hg5) h)
      | some i8 =>
        dsimp only at h
        refine j_ifnullS C dX10_move_53 ?_
        obtain ⟨hg9, h⟩ := gd_some h
        refine j_aload C 0 rfl dX10_move_56 ?_
        refine j_aload C 1 rfl dX10_move_58 ?_
        refine j_acmp_eq (tgt := 66) C (by decide) (cw_18 (χ := χ) hg9) (cw_18 (χ := χ) (wt_18 wt6 (by decide) (by decide) hg5)) (by decide) dX10_move_60 (fun hc10 => ?_) (fun hc10 => ?_)
        · replace h := (if_pos hc10).symm.trans h
          exact j_sub [2, 4, 5, 1] rfl (t_X10_move_66 C _ _ ⟨by omega, by omega⟩ χ T a2 a3 (gN χ 0 a1.toNatClampNeg) (wt_18 wt6 (by decide) (by decide) hg5) h)
        · replace h := (if_neg hc10).symm.trans h
          refine j_bipush (v := -3) C (by decide) dX10_move_63 ?_
          obtain rfl := Option.some.inj h
          exact j_iret C rfl rfl (by omega) (by omega) dX10_move_65
    · replace h := (if_pos hc4).symm.trans h
      refine j_bipush (v := -2) C (by decide) dX10_move_19 ?_
      obtain rfl := Option.some.inj h
      exact j_iret C rfl rfl (by omega) (by omega) dX10_move_21
set_option maxRecDepth 100000 in
set_option maxHeartbeats 4000000 in
theorem c_X10_move {l : Launch} {g : Gc} {ad : Nat → Nat → Nat} {χ : Mem} {T : Nat → Mem} {σ : Mem} {a1 : Int32} {a2 : Int32} {a3 : Int32} {rr : (Mem × (Nat → Mem)) × Int32} (h : f_X10_move χ T a1 a2 a3 = some rr) : Met l yX10_move (WS yX10_move cX10_move 6 (some .int)) rm_X10_move (PreW g ad χ T σ [.ref (ad 0 0), .int a1, .int a2, .int a3]) (PoI g ad rr.1.1 rr.1.2 σ rr.2) 80 1680 (geB g) := by
  refine j_metW (by decide) (Nat.le_of_ble_eq_true rfl) fun p e s m below meth c C hname => ?_
  rw [f_X10_move] at h
  exact j_sub [0, 1, 2, 3] rfl (t_X10_move_0 C 0 0 ⟨Nat.le_of_ble_eq_true rfl, Nat.le_of_ble_eq_true rfl⟩ χ T a1 a2 a3 h)
set_option maxRecDepth 100000 in
set_option maxHeartbeats 4000000 in
theorem t_X10_pin_0 {σ : Mem} (C : Cx p s m args meth c cX10_pin 3 RX10 (some .int) COM g) {rr : (Mem × (Nat → Mem)) × Int32} (cl sl : Nat) (hcs : cl + (82) ≤ 82 ∧ sl + (1707) ≤ 1707) (χ : Mem) (T : Nat → Mem) (a1 : Int32) (a2 : Int32) (h : f_X10_pin_0 χ T a1 a2 = some rr) : JJ p l e rm_X10_pin s m args below meth c 3 g ad (MQ below (PoEI g χ ad rr.1.1 rr.1.2 σ rr.2) args s 82 1707 (geB g)) χ T σ cl sl [(0, .ref (ad 0 0)), (1, .int a1), (2, .int a2)] 0 [] := by
  rw [f_X10_pin_0] at h
  refine j_iload_n C 1 rfl rfl dX10_pin_0 ?_
  refine j_iload_n C 2 rfl rfl dX10_pin_1 ?_
  obtain ⟨q1, hq1, h⟩ := bi_some h
  refine j_callSi (As := [.int a1, .int a2]) (rest := []) C (c_X10_isPlace hq1) (va_cwS 2 C.ts (good_S mw_288 mw_289 mw_63 mw_290) rfl rfl rfl (by decide +kernel) ⟨Nat.le_of_ble_eq_true rfl, Nat.le_of_ble_eq_true rfl⟩) rfl rfl (Nat.le_of_ble_eq_true rfl) dX10_pin_2 ⟨(by show _ ≤ 82; omega), (by show _ ≤ 1707; omega)⟩ ?_
  refine j_if_ne (tgt := 11) C (by decide) dX10_pin_5 (fun hc2 => ?_) (fun hc2 => ?_)
  · replace h := (if_neg hc2).symm.trans h
    refine j_aload_n C 0 rfl rfl dX10_pin_11 ?_
    refine j_getG C in_X10 (by decide) cw_0 rfl 0 (by decide) mw_268 (fun _ h => h) rfl dX10_pin_12 ?_
    refine j_iload_n C 1 rfl rfl dX10_pin_15 ?_
    refine j_iload_n C 2 rfl rfl dX10_pin_16 ?_
    obtain ⟨q3, hq3, h⟩ := bi_some h
    refine j_callVq (As := [.int a1, .int a2]) (rest := []) C (c_X2_pinAt hq3) (cwV 2 C.ts (good_V mw_291 mw_292 mw_293 mw_64 mw_294) rfl rfl rfl (by decide +kernel) ⟨Nat.le_of_ble_eq_true rfl, Nat.le_of_ble_eq_true rfl⟩) (fun H hW => CW.rv C.k hW (by decide) cw_1 rfl) rfl rfl (Nat.le_of_ble_eq_true rfl) dX10_pin_17 ⟨(by show _ ≤ 82; omega), (by show _ ≤ 1707; omega)⟩ ?_
    cases q3 with
    | none =>
      dsimp only at h
      refine j_ifnullN (tgt := 26) C (by decide) dX10_pin_20 ?_
      refine j_aload_n C 0 rfl rfl dX10_pin_26 ?_
      refine j_getG C in_X10 (by decide) cw_0 rfl 0 (by decide) mw_268 (fun _ h => h) rfl dX10_pin_27 ?_
      refine j_getG C in_X2 (by decide) cw_1 rfl 0 (by decide) mw_125 (fun _ h => h) rfl dX10_pin_30 ?_
      refine j_lsize C (by decide) mw_326 ⟨Nat.le_of_ble_eq_true rfl, Nat.le_of_ble_eq_true rfl⟩ (Nat.le_of_ble_eq_true rfl) dX10_pin_33 ⟨(by show _ ≤ 82; omega), (by show _ ≤ 1707; omega)⟩ ?_
      refine j_bipush (v := 6) C (by decide) dX10_pin_38 ?_
      refine j_icmp_lt (tgt := 46) C (by decide) dX10_pin_40 (fun hc5 => ?_) (fun hc5 => ?_)
      · replace h := (if_pos hc5).symm.trans h
        refine j_aload_n C 0 rfl rfl dX10_pin_46 ?_
        refine j_getG C in_X10 (by decide) cw_0 rfl 0 (by decide) mw_268 (fun _ h => h) rfl dX10_pin_47 ?_
        refine j_getG C in_X2 (by decide) cw_1 rfl 0 (by decide) mw_125 (fun _ h => h) rfl dX10_pin_50 ?_
        refine j_newX C 1 in_X4 tyX4_ok mw_327 mw_328 mw_76 (show vwCl[5]? = some (RX4, TX4, 6) from rfl) rfl fs_X4 (by show _ ≤ 82; omega) (by show _ ≤ 1707; omega) dX10_pin_53 (fun ad7 hx6 => ?_)
        refine j_re (L' := [(0, .ref (ad7 0 0)), (1, .int a1), (2, .int a2)]) (st' := [.ref (ad7 22 0), .ref (ad7 16 0)]) (by rw [hx6.lo (k := 0) (i := 0) (by decide)]) (by rw [hx6.lo (k := 16) (i := 0) (by decide)]) ?_
        refine j_dup C rfl dX10_pin_56 ?_
        refine j_aload_n C 0 rfl rfl dX10_pin_57 ?_
        refine j_getG C in_X10 (by decide) cw_0 rfl 0 (by decide) mw_268 (fun _ h => h) rfl dX10_pin_58 ?_
        refine j_getG C in_X2 (by decide) cw_1 rfl 0 (by decide) mw_125 (fun _ h => h) rfl dX10_pin_61 ?_
        refine j_lsize C (by decide) mw_326 ⟨Nat.le_of_ble_eq_true rfl, Nat.le_of_ble_eq_true rfl⟩ (Nat.le_of_ble_eq_true rfl) dX10_pin_64 ⟨(by show _ ≤ 82; omega), (by show _ ≤ 1707; omega)⟩ ?_
        refine j_iload_n C 1 rfl rfl dX10_pin_69 ?_
        refine j_iload_n C 2 rfl rfl dX10_pin_70 ?_
        refine j_initPin (N := gN χ 8 0) C rfl rfl (cwI 3 C.ts (good_WS mw_331) rfl rfl rfl (C.ts _ mw_76) (C.ts _ mw_329) (C.ts _ mw_330) rfl (by decide +kernel) ⟨Nat.le_of_ble_eq_true rfl, Nat.le_of_ble_eq_true rfl⟩) (Nat.le_of_ble_eq_true rfl) dX10_pin_71 ⟨(by show _ ≤ 82; omega), (by show _ ≤ 1707; omega)⟩ (fun ad9 hx8 he10 => ?_)
        refine j_re (L' := [(0, .ref (ad9 0 0)), (1, .int a1), (2, .int a2)]) (st' := [.ref (ad9 18 (gN χ 8 0)), .ref (ad9 16 0)]) (by rw [hx8.lo (k := 0) (i := 0) (by decide)]) (by rw [he10, hx8.lo (k := 16) (i := 0) (by decide)]) ?_
        obtain ⟨hg11, h⟩ := gd_some h
        refine j_lsaddK (ek := 18) C (by decide) (by decide) hg11 (elP_18 (by decide) (mkPin_new (χ := (wN χ 8 3 1)))) mw_367 ⟨Nat.le_of_ble_eq_true rfl, Nat.le_of_ble_eq_true rfl⟩ (Nat.le_of_ble_eq_true rfl) dX10_pin_74 ⟨(by show _ ≤ 82; omega), (by show _ ≤ 1707; omega)⟩ ?_
        refine j_pop C rfl dX10_pin_79 ?_
        refine j_aload_n C 0 rfl rfl dX10_pin_80 ?_
        obtain ⟨q12, hq12, h⟩ := bi_some h
        refine j_callVv (As := []) (rest := []) C (c_X10_renew hq12) (cwV 0 C.ts (good_V mw_430 mw_432 mw_3 mw_63 mw_433) rfl rfl rfl (by decide +kernel) ⟨Nat.le_of_ble_eq_true rfl, Nat.le_of_ble_eq_true rfl⟩) (fun H hW => CW.rv C.k hW (by decide) cw_0 rfl) rfl rfl (Nat.le_of_ble_eq_true rfl) dX10_pin_81 ⟨(by show _ ≤ 82; omega), (by show _ ≤ 1707; omega)⟩ ?_
        refine j_aload_n C 0 rfl rfl dX10_pin_84 ?_
        refine j_getG C in_X10 (by decide) cw_0 rfl 0 (by decide) mw_268 (fun _ h => h) rfl dX10_pin_85 ?_
        refine j_getG C in_X2 (by decide) cw_1 rfl 0 (by decide) mw_125 (fun _ h => h) rfl dX10_pin_88 ?_
        refine j_lsize C (by decide) mw_326 ⟨Nat.le_of_ble_eq_true rfl, Nat.le_of_ble_eq_true rfl⟩ (Nat.le_of_ble_eq_true rfl) dX10_pin_91 ⟨(by show _ ≤ 82; omega), (by show _ ≤ 1707; omega)⟩ ?_
        refine j_iconst (v := 1) C (by decide) dX10_pin_96 ?_
        refine j_isub C dX10_pin_97 ?_
        obtain rfl := Option.some.inj h
        exact j_iretE C (Ext.trN hx6 hx8) rfl rfl (by omega) (by omega) dX10_pin_98
      · replace h := (if_neg hc5).symm.trans h
        refine j_bipush (v := -4) C (by decide) dX10_pin_43 ?_
        obtain rfl := Option.some.inj h
        exact j_iretE C Ext.rf rfl rfl (by omega) (by omega) dX10_pin_45
    | some i4 =>
      dsimp only at h
      refine j_ifnullS C dX10_pin_20 ?_
      refine j_bipush (v := -3) C (by decide) dX10_pin_23 ?_
      obtain rfl := Option.some.inj h
      exact j_iretE C Ext.rf rfl rfl (by omega) (by omega) dX10_pin_25
  · replace h := (if_pos hc2).symm.trans h
    refine j_bipush (v := -2) C (by decide) dX10_pin_8 ?_
    obtain rfl := Option.some.inj h
    exact j_iretE C Ext.rf rfl rfl (by omega) (by omega) dX10_pin_10
set_option maxRecDepth 100000 in
set_option maxHeartbeats 4000000 in
theorem c_X10_pin {l : Launch} {g : Gc} {ad : Nat → Nat → Nat} {χ : Mem} {T : Nat → Mem} {σ : Mem} {a1 : Int32} {a2 : Int32} {rr : (Mem × (Nat → Mem)) × Int32} (h : f_X10_pin χ T a1 a2 = some rr) : Met l yX10_pin (WS yX10_pin cX10_pin 3 (some .int)) rm_X10_pin (PreW g ad χ T σ [.ref (ad 0 0), .int a1, .int a2]) (PoEI g χ ad rr.1.1 rr.1.2 σ rr.2) 82 1707 (geB g) := by
  refine j_metW (by decide) (Nat.le_of_ble_eq_true rfl) fun p e s m below meth c C hname => ?_
  rw [f_X10_pin] at h
  exact j_sub [0, 1, 2] rfl (t_X10_pin_0 C 0 0 ⟨Nat.le_of_ble_eq_true rfl, Nat.le_of_ble_eq_true rfl⟩ χ T a1 a2 h)
set_option maxRecDepth 100000 in
set_option maxHeartbeats 4000000 in
theorem t_X10_rod_0 {σ : Mem} (C : Cx p s m args meth c cX10_rod 7 RX10 (some .int) COM g) {rr : (Mem × (Nat → Mem)) × Int32} (cl sl : Nat) (hcs : cl + (82) ≤ 82 ∧ sl + (1707) ≤ 1707) (χ : Mem) (T : Nat → Mem) (a1 : Int32) (a2 : Int32) (a3 : Int32) (a4 : Int32) (h : f_X10_rod_0 χ T a1 a2 a3 a4 = some rr) : JJ p l e rm_X10_rod s m args below meth c 7 g ad (MQ below (PoEI g χ ad rr.1.1 rr.1.2 σ rr.2) args s 82 1707 (geB g)) χ T σ cl sl [(0, .ref (ad 0 0)), (1, .int a1), (2, .int a2), (3, .int a3), (4, .int a4)] 0 [] := by
  rw [f_X10_rod_0] at h
  refine j_iload_n C 1 rfl rfl dX10_rod_0 ?_
  refine j_if_lt (tgt := 18) C (by decide) dX10_rod_1 (fun hc1 => ?_) (fun hc1 => ?_)
  · replace h := (if_pos hc1).symm.trans h
    refine j_bipush (v := -2) C (by decide) dX10_rod_18 ?_
    obtain rfl := Option.some.inj h
    exact j_iretE C Ext.rf rfl rfl (by omega) (by omega) dX10_rod_20
  · replace h := (if_neg hc1).symm.trans h
    refine j_iload_n C 1 rfl rfl dX10_rod_4 ?_
    refine j_iconst (v := 5) C (by decide) dX10_rod_5 ?_
    refine j_icmp_ge (tgt := 18) C (by decide) dX10_rod_6 (fun hc2 => ?_) (fun hc2 => ?_)
    · replace h := (if_pos hc2).symm.trans h
      refine j_bipush (v := -2) C (by decide) dX10_rod_18 ?_
      obtain rfl := Option.some.inj h
      exact j_iretE C Ext.rf rfl rfl (by omega) (by omega) dX10_rod_20
    · replace h := (if_neg hc2).symm.trans h
      refine j_iload_n C 1 rfl rfl dX10_rod_9 ?_
      refine j_iload C 4 rfl dX10_rod_10 ?_
      obtain ⟨q3, hq3, h⟩ := bi_some h
      refine j_callSi (As := [.int a1, .int a4]) (rest := []) C (c_X10_isPriceOf hq3) (va_cwS 2 C.ts (good_S mw_629 mw_630 mw_63 mw_631) rfl rfl rfl (by decide +kernel) ⟨Nat.le_of_ble_eq_true rfl, Nat.le_of_ble_eq_true rfl⟩) rfl rfl (Nat.le_of_ble_eq_true rfl) dX10_rod_12 ⟨(by show _ ≤ 82; omega), (by show _ ≤ 1707; omega)⟩ ?_
      refine j_if_ne (tgt := 21) C (by decide) dX10_rod_15 (fun hc4 => ?_) (fun hc4 => ?_)
      · replace h := (if_neg hc4).symm.trans h
        refine j_aload_n C 0 rfl rfl dX10_rod_21 ?_
        refine j_getG C in_X10 (by decide) cw_0 rfl 0 (by decide) mw_268 (fun _ h => h) rfl dX10_rod_22 ?_
        refine j_iload_n C 2 rfl rfl dX10_rod_25 ?_
        obtain ⟨q5, hq5, h⟩ := bi_some h
        refine j_callVi (As := [.int a2]) (rest := []) C (c_X2_isPin hq5) (cwV 1 C.ts (good_V mw_615 mw_616 mw_617 mw_64 mw_618) rfl rfl rfl (by decide +kernel) ⟨Nat.le_of_ble_eq_true rfl, Nat.le_of_ble_eq_true rfl⟩) (fun H hW => CW.rv C.k hW (by decide) cw_1 rfl) rfl rfl (Nat.le_of_ble_eq_true rfl) dX10_rod_26 ⟨(by show _ ≤ 82; omega), (by show _ ≤ 1707; omega)⟩ ?_
        refine j_if_eq (tgt := 48) C (by decide) dX10_rod_29 (fun hc6 => ?_) (fun hc6 => ?_)
        · replace h := (if_pos hc6).symm.trans h
          refine j_bipush (v := -2) C (by decide) dX10_rod_48 ?_
          obtain rfl := Option.some.inj h
          exact j_iretE C Ext.rf rfl rfl (by omega) (by omega) dX10_rod_50
        · replace h := (if_neg hc6).symm.trans h
          refine j_aload_n C 0 rfl rfl dX10_rod_32 ?_
          refine j_getG C in_X10 (by decide) cw_0 rfl 0 (by decide) mw_268 (fun _ h => h) rfl dX10_rod_33 ?_
          refine j_iload_n C 3 rfl rfl dX10_rod_36 ?_
          obtain ⟨q7, hq7, h⟩ := bi_some h
          refine j_callVi (As := [.int a3]) (rest := []) C (c_X2_isPin hq7) (cwV 1 C.ts (good_V mw_615 mw_616 mw_617 mw_64 mw_618) rfl rfl rfl (by decide +kernel) ⟨Nat.le_of_ble_eq_true rfl, Nat.le_of_ble_eq_true rfl⟩) (fun H hW => CW.rv C.k hW (by decide) cw_1 rfl) rfl rfl (Nat.le_of_ble_eq_true rfl) dX10_rod_37 ⟨(by show _ ≤ 82; omega), (by show _ ≤ 1707; omega)⟩ ?_
          refine j_if_eq (tgt := 48) C (by decide) dX10_rod_40 (fun hc8 => ?_) (fun hc8 => ?_)
          · replace h := (if_pos hc8).symm.trans h
            refine j_bipush (v := -2) C (by decide) dX10_rod_48 ?_
            obtain rfl := Option.some.inj h
            exact j_iretE C Ext.rf rfl rfl (by omega) (by omega) dX10_rod_50
          · replace h := (if_neg hc8).symm.trans h
            refine j_iload_n C 2 rfl rfl dX10_rod_43 ?_
            refine j_iload_n C 3 rfl rfl dX10_rod_44 ?_
            refine j_icmp_ne (tgt := 51) C (by decide) dX10_rod_45 (fun hc9 => ?_) (fun hc9 => ?_)
            · replace h := (if_neg hc9).symm.trans h
              refine j_aload_n C 0 rfl rfl dX10_rod_51 ?_
              refine j_getG C in_X10 (by decide) cw_0 rfl 0 (by decide) mw_268 (fun _ h => h) rfl dX10_rod_52 ?_
              refine j_getG C in_X2 (by decide) cw_1 rfl 0 (by decide) mw_125 (fun _ h => h) rfl dX10_rod_55 ?_
              refine j_iload_n C 2 rfl rfl dX10_rod_58 ?_
              obtain ⟨hg10, h⟩ := gd_some h
              refine j_wt (fun wt11 => ?_)
              refine j_lgetK (ek := 18) C (by decide) (by decide) hg10 mw_620 ⟨Nat.le_of_ble_eq_true rfl, Nat.le_of_ble_eq_true rfl⟩ (Nat.le_of_ble_eq_true rfl) dX10_rod_59 ⟨(by show _ ≤ 82; omega), (by show _ ≤ 1707; omega)⟩ ?_
              refine j_castS (q := (RX4, TX4, 6)) C mw_327 (by decide) (cw_18 (χ := χ) (wt_18 wt11 (by decide) (by decide) hg10)) rfl dX10_rod_64 ?_
              refine j_astore (L' := [(5, .ref (ad 18 (gN χ 0 a2.toNatClampNeg))), (0, .ref (ad 0 0)), (1, .int a1), (2, .int a2), (3, .int a3), (4, .int a4)]) C (by decide) rfl dX10_rod_67 ?_
              refine j_aload_n C 1 rfl rfl dX10_rod_69 ?_
              refine j_getG C in_X10 (by decide) cw_0 rfl 0 (by decide) mw_268 (fun _ h => h) rfl dX10_rod_70 ?_
              refine j_getG C in_X2 (by decide) cw_1 rfl 0 (by decide) mw_125 (fun _ h => h) rfl dX10_rod_73 ?_
              refine j_iload_n C 4 rfl rfl dX10_rod_76 ?_
              obtain ⟨hg12, h⟩ := gd_some h
              refine j_wt (fun wt13 => ?_)
              refine j_lgetK (ek := 18) C (by decide) (by decide) hg12 mw_620 ⟨Nat.le_of_ble_eq_true rfl, Nat.le_of_ble_eq_true rfl⟩ (Nat.le_of_ble_eq_true rfl) dX10_rod_77 ⟨(by show _ ≤ 82; omega), (by show _ ≤ 1707; omega)⟩ ?_
              refine j_castS (q := (RX4, TX4, 6)) C mw_327 (by decide) (cw_18 (χ := χ) (wt_18 wt13 (by decide) (by decide) hg12)) rfl dX10_rod_82 ?_
              refine j_astore (L' := [(6, .ref (ad 18 (gN χ 0 a3.toNatClampNeg))), (5, .ref (ad 18 (gN χ 0 a2.toNatClampNeg))), (0, .ref (ad 0 0)), (1, .int a1), (2, .int a2), (3, .int a3), (4, .int a4)]) C (by decide) rfl dX10_rod_85 ?_
              refine j_aload_n C 2 rfl rfl dX10_rod_87 ?_
              refine j_getG C in_X10 (by decide) cw_0 rfl 0 (by decide) mw_268 (fun _ h => h) rfl dX10_rod_88 ?_
              refine j_aload C 1 rfl dX10_rod_91 ?_
              refine j_aload C 0 rfl dX10_rod_93 ?_
              obtain ⟨q14, hq14, h⟩ := bi_some h
              refine j_callVi (As := [.ref (ad 18 (gN χ 0 a2.toNatClampNeg)), .ref (ad 18 (gN χ 0 a3.toNatClampNeg))]) (rest := []) C (c_X2_areJoined (wt_18 wt11 (by decide) (by decide) hg10) (wt_18 wt13 (by decide) (by decide) hg12) hq14) (cwV 2 C.ts (good_V mw_632 mw_633 mw_634 mw_64 mw_635) rfl rfl rfl (by decide +kernel) ⟨Nat.le_of_ble_eq_true rfl, Nat.le_of_ble_eq_true rfl⟩) (fun H hW => CW.rv C.k hW (by decide) cw_1 rfl) rfl rfl (Nat.le_of_ble_eq_true rfl) dX10_rod_95 ⟨(by show _ ≤ 82; omega), (by show _ ≤ 1707; omega)⟩ ?_
              refine j_if_eq (tgt := 104) C (by decide) dX10_rod_98 (fun hc15 => ?_) (fun hc15 => ?_)
              · replace h := (if_pos hc15).symm.trans h
                refine j_aload_n C 2 rfl rfl dX10_rod_104 ?_
                refine j_getG C in_X10 (by decide) cw_0 rfl 0 (by decide) mw_268 (fun _ h => h) rfl dX10_rod_105 ?_
                refine j_getG C in_X2 (by decide) cw_1 rfl 1 (by decide) mw_129 (fun _ h => h) rfl dX10_rod_108 ?_
                refine j_lsize C (by decide) mw_326 ⟨Nat.le_of_ble_eq_true rfl, Nat.le_of_ble_eq_true rfl⟩ (Nat.le_of_ble_eq_true rfl) dX10_rod_111 ⟨(by show _ ≤ 82; omega), (by show _ ≤ 1707; omega)⟩ ?_
                refine j_bipush (v := 15) C (by decide) dX10_rod_116 ?_
                refine j_icmp_lt (tgt := 124) C (by decide) dX10_rod_118 (fun hc16 => ?_) (fun hc16 => ?_)
                · replace h := (if_pos hc16).symm.trans h
                  refine j_aload_n C 2 rfl rfl dX10_rod_124 ?_
                  refine j_getG C in_X10 (by decide) cw_0 rfl 0 (by decide) mw_268 (fun _ h => h) rfl dX10_rod_125 ?_
                  refine j_getG C in_X2 (by decide) cw_1 rfl 1 (by decide) mw_129 (fun _ h => h) rfl dX10_rod_128 ?_
                  refine j_newX C 2 in_X5 tyX5_ok mw_640 mw_641 mw_82 (show vwCl[6]? = some (RX5, TX5, 6) from rfl) rfl fs_X5 (by show _ ≤ 82; omega) (by show _ ≤ 1707; omega) dX10_rod_131 (fun ad18 hx17 => ?_)
                  refine j_re (L' := [(6, .ref (ad18 18 (gN χ 0 a3.toNatClampNeg))), (5, .ref (ad18 18 (gN χ 0 a2.toNatClampNeg))), (0, .ref (ad18 0 0)), (1, .int a1), (2, .int a2), (3, .int a3), (4, .int a4)]) (st' := [.ref (ad18 22 0), .ref (ad18 16 1)]) (by rw [hx17.pin (wt_18 wt13 (by decide) (by decide) hg12), hx17.pin (wt_18 wt11 (by decide) (by decide) hg10), hx17.lo (k := 0) (i := 0) (by decide)]) (by rw [hx17.lo (k := 16) (i := 1) (by decide)]) ?_
                  refine j_dup C rfl dX10_rod_134 ?_
                  refine j_aload_n C 2 rfl rfl dX10_rod_135 ?_
                  refine j_getG C in_X10 (by decide) cw_0 rfl 0 (by decide) mw_268 (fun _ h => h) rfl dX10_rod_136 ?_
                  refine j_getG C in_X2 (by decide) cw_1 rfl 1 (by decide) mw_129 (fun _ h => h) rfl dX10_rod_139 ?_
                  refine j_lsize C (by decide) mw_326 ⟨Nat.le_of_ble_eq_true rfl, Nat.le_of_ble_eq_true rfl⟩ (Nat.le_of_ble_eq_true rfl) dX10_rod_142 ⟨(by show _ ≤ 82; omega), (by show _ ≤ 1707; omega)⟩ ?_
                  refine j_iload_n C 3 rfl rfl dX10_rod_147 ?_
                  refine j_aload C 1 rfl dX10_rod_148 ?_
                  refine j_aload C 0 rfl dX10_rod_150 ?_
                  refine j_iload C 6 rfl dX10_rod_152 ?_
                  refine j_initRod (N := gN χ 8 1) C rfl rfl (wt_18 wt11 (by decide) (by decide) hg10) (wt_18 wt13 (by decide) (by decide) hg12) (cwI 5 C.ts (good_WS mw_644) rfl rfl rfl (C.ts _ mw_82) (C.ts _ mw_642) (C.ts _ mw_643) rfl (by decide +kernel) ⟨Nat.le_of_ble_eq_true rfl, Nat.le_of_ble_eq_true rfl⟩) (Nat.le_of_ble_eq_true rfl) dX10_rod_154 ⟨(by show _ ≤ 82; omega), (by show _ ≤ 1707; omega)⟩ (fun ad20 hx19 he21 => ?_)
                  refine j_re (L' := [(6, .ref (ad20 18 (gN χ 0 a3.toNatClampNeg))), (5, .ref (ad20 18 (gN χ 0 a2.toNatClampNeg))), (0, .ref (ad20 0 0)), (1, .int a1), (2, .int a2), (3, .int a3), (4, .int a4)]) (st' := [.ref (ad20 19 (gN χ 8 1)), .ref (ad20 16 1)]) (by rw [hx19.pin (wt_18 wt13 (by decide) (by decide) hg12), hx19.pin (wt_18 wt11 (by decide) (by decide) hg10), hx19.lo (k := 0) (i := 0) (by decide)]) (by rw [he21, hx19.lo (k := 16) (i := 1) (by decide)]) ?_
                  obtain ⟨hg22, h⟩ := gd_some h
                  refine j_lsaddK (ek := 19) C (by decide) (by decide) hg22 (elP_19 (by decide) (mkRod_new (χ := (wN χ 8 3 2)))) mw_367 ⟨Nat.le_of_ble_eq_true rfl, Nat.le_of_ble_eq_true rfl⟩ (Nat.le_of_ble_eq_true rfl) dX10_rod_157 ⟨(by show _ ≤ 82; omega), (by show _ ≤ 1707; omega)⟩ ?_
                  refine j_pop C rfl dX10_rod_162 ?_
                  refine j_aload_n C 2 rfl rfl dX10_rod_163 ?_
                  obtain ⟨q23, hq23, h⟩ := bi_some h
                  refine j_callVv (As := []) (rest := []) C (c_X10_renew hq23) (cwV 0 C.ts (good_V mw_430 mw_432 mw_3 mw_63 mw_433) rfl rfl rfl (by decide +kernel) ⟨Nat.le_of_ble_eq_true rfl, Nat.le_of_ble_eq_true rfl⟩) (fun H hW => CW.rv C.k hW (by decide) cw_0 rfl) rfl rfl (Nat.le_of_ble_eq_true rfl) dX10_rod_164 ⟨(by show _ ≤ 82; omega), (by show _ ≤ 1707; omega)⟩ ?_
                  refine j_aload_n C 2 rfl rfl dX10_rod_167 ?_
                  refine j_getG C in_X10 (by decide) cw_0 rfl 0 (by decide) mw_268 (fun _ h => h) rfl dX10_rod_168 ?_
                  refine j_getG C in_X2 (by decide) cw_1 rfl 1 (by decide) mw_129 (fun _ h => h) rfl dX10_rod_171 ?_
                  refine j_lsize C (by decide) mw_326 ⟨Nat.le_of_ble_eq_true rfl, Nat.le_of_ble_eq_true rfl⟩ (Nat.le_of_ble_eq_true rfl) dX10_rod_174 ⟨(by show _ ≤ 82; omega), (by show _ ≤ 1707; omega)⟩ ?_
                  refine j_iconst (v := 1) C (by decide) dX10_rod_179 ?_
                  refine j_isub C dX10_rod_180 ?_
                  obtain rfl := Option.some.inj h
                  exact j_iretE C (Ext.trN hx17 hx19) rfl rfl (by omega) (by omega) dX10_rod_181
                · replace h := (if_neg hc16).symm.trans h
                  refine j_bipush (v := -4) C (by decide) dX10_rod_121 ?_
                  obtain rfl := Option.some.inj h
                  exact j_iretE C Ext.rf rfl rfl (by omega) (by omega) dX10_rod_123
              · replace h := (if_neg hc15).symm.trans h
                refine j_bipush (v := -3) C (by decide) dX10_rod_101 ?_
                obtain rfl := Option.some.inj h
                exact j_iretE C Ext.rf rfl rfl (by omega) (by omega) dX10_rod_103
            · replace h := (if_pos hc9).symm.trans h
              refine j_bipush (v := -2) C (by decide) dX10_rod_48 ?_
              obtain rfl := Option.some.inj h
              exact j_iretE C Ext.rf rfl rfl (by omega) (by omega) dX10_rod_50
      · replace h := (if_pos hc4).symm.trans h
        refine j_bipush (v := -2) C (by decide) dX10_rod_18 ?_
        obtain rfl := Option.some.inj h
        exact j_iretE C Ext.rf rfl rfl (by omega) (by omega) dX10_rod_20
set_option maxRecDepth 100000 in
set_option maxHeartbeats 4000000 in
theorem c_X10_rod {l : Launch} {g : Gc} {ad : Nat → Nat → Nat} {χ : Mem} {T : Nat → Mem} {σ : Mem} {a1 : Int32} {a2 : Int32} {a3 : Int32} {a4 : Int32} {rr : (Mem × (Nat → Mem)) × Int32} (h : f_X10_rod χ T a1 a2 a3 a4 = some rr) : Met l yX10_rod (WS yX10_rod cX10_rod 7 (some .int)) rm_X10_rod (PreW g ad χ T σ [.ref (ad 0 0), .int a1, .int a2, .int a3, .int a4]) (PoEI g χ ad rr.1.1 rr.1.2 σ rr.2) 82 1707 (geB g) := by
  refine j_metW (by decide) (Nat.le_of_ble_eq_true rfl) fun p e s m below meth c C hname => ?_
  rw [f_X10_rod] at h
  exact j_sub [0, 1, 2, 3, 4] rfl (t_X10_rod_0 C 0 0 ⟨Nat.le_of_ble_eq_true rfl, Nat.le_of_ble_eq_true rfl⟩ χ T a1 a2 a3 a4 h)
set_option maxRecDepth 100000 in
set_option maxHeartbeats 4000000 in
theorem t_X9_isThing_0 {σ : Mem} {χ : Mem} {T : Nat → Mem} (C : Cx p s m args meth c cX9_isThing 3 RX9 (some .boolean) COM g) {rr : Int32} (a1 : Int32) (a2 : Int32) (h : f_X9_isThing_0 χ T a1 a2 = some rr) : JJ p l e rm_X9_isThing s m args below meth c 3 g ad (MQ below (PoI g ad χ T σ rr) args s 0 0 (geB g)) χ T σ 0 0 [(0, .ref (ad 5 0)), (1, .int a1), (2, .int a2)] 0 [] := by
  rw [f_X9_isThing_0] at h
  refine j_iload_n C 1 rfl rfl dX9_isThing_0 ?_
  by_cases hs1 : a1.toInt < 0 ∨ 4 < a1.toInt
  · replace h := (if_pos hs1).symm.trans h
    refine j_tableOut (tgt := 60) C hs1 (by decide) dX9_isThing_1 ?_
    refine j_iconst (v := 0) C (by decide) dX9_isThing_60 ?_
    obtain rfl := Option.some.inj h
    exact j_iret C rfl (bo_nar (Or.inl rfl)) (Nat.le_refl _) (Nat.le_refl _) dX9_isThing_61
  · replace h := (if_neg hs1).symm.trans h
    by_cases hx2 : a1 = (0 : Int32)
    · replace h := (if_pos hx2).symm.trans h
      refine j_tableIn (off := 35) (tgt := 36) C (fun q => hs1 (Or.inl q)) (fun q => hs1 (Or.inr q)) (by rw [hx2]; rfl) (by decide) dX9_isThing_1 ?_
      refine j_iconst (v := 1) C (by decide) dX9_isThing_36 ?_
      obtain rfl := Option.some.inj h
      exact j_iret C rfl (bo_nar (Or.inr rfl)) (Nat.le_refl _) (Nat.le_refl _) dX9_isThing_37
    · replace h := (if_neg hx2).symm.trans h
      by_cases hx3 : a1 = (1 : Int32)
      · replace h := (if_pos hx3).symm.trans h
        refine j_tableIn (off := 37) (tgt := 38) C (fun q => hs1 (Or.inl q)) (fun q => hs1 (Or.inr q)) (by rw [hx3]; rfl) (by decide) dX9_isThing_1 ?_
        refine j_aload_n C 0 rfl rfl dX9_isThing_38 ?_
        refine j_getG C in_X9 (by decide) cw_5 rfl 0 (by decide) mw_255 (fun _ h => h) rfl dX9_isThing_39 ?_
        refine j_iload_n C 2 rfl rfl dX9_isThing_42 ?_
        obtain ⟨q4, hq4, h⟩ := bi_some h
        refine j_callVi (As := [.int a2]) (rest := []) C (c_X2_isRod hq4) (cwV 1 C.ts (good_V mw_907 mw_685 mw_686 mw_64 mw_687) rfl rfl rfl (by decide +kernel) ⟨Nat.le_of_ble_eq_true rfl, Nat.le_of_ble_eq_true rfl⟩) (fun H hW => CW.rv C.k hW (by decide) cw_1 rfl) rfl rfl (Nat.le_of_ble_eq_true rfl) dX9_isThing_43 ⟨Nat.zero_le _, Nat.zero_le _⟩ ?_
        obtain ⟨hg5, h⟩ := gd_some h
        obtain rfl := Option.some.inj h
        exact j_iret C rfl (bo_nar hg5) (Nat.le_refl _) (Nat.le_refl _) dX9_isThing_46
      · replace h := (if_neg hx3).symm.trans h
        by_cases hx6 : a1 = (2 : Int32)
        · replace h := (if_pos hx6).symm.trans h
          refine j_tableIn (off := 46) (tgt := 47) C (fun q => hs1 (Or.inl q)) (fun q => hs1 (Or.inr q)) (by rw [hx6]; rfl) (by decide) dX9_isThing_1 ?_
          refine j_aload_n C 0 rfl rfl dX9_isThing_47 ?_
          refine j_getG C in_X9 (by decide) cw_5 rfl 1 (by decide) mw_256 (fun _ h => h) rfl dX9_isThing_48 ?_
          refine j_iload_n C 2 rfl rfl dX9_isThing_51 ?_
          obtain ⟨q7, hq7, h⟩ := bi_some h
          refine j_callVi (As := [.int a2]) (rest := []) C (c_X0_isMotion hq7) (cwV 1 C.ts (good_V mw_908 mw_763 mw_764 mw_68 mw_765) rfl rfl rfl (by decide +kernel) ⟨Nat.le_of_ble_eq_true rfl, Nat.le_of_ble_eq_true rfl⟩) (fun H hW => CW.rv C.k hW (by decide) cw_2 rfl) rfl rfl (Nat.le_of_ble_eq_true rfl) dX9_isThing_52 ⟨Nat.zero_le _, Nat.zero_le _⟩ ?_
          obtain ⟨hg8, h⟩ := gd_some h
          obtain rfl := Option.some.inj h
          exact j_iret C rfl (bo_nar hg8) (Nat.le_refl _) (Nat.le_refl _) dX9_isThing_55
        · replace h := (if_neg hx6).symm.trans h
          by_cases hx9 : a1 = (3 : Int32)
          · replace h := (if_pos hx9).symm.trans h
            refine j_tableIn (off := 55) (tgt := 56) C (fun q => hs1 (Or.inl q)) (fun q => hs1 (Or.inr q)) (by rw [hx9]; rfl) (by decide) dX9_isThing_1 ?_
            refine j_iconst (v := 1) C (by decide) dX9_isThing_56 ?_
            obtain rfl := Option.some.inj h
            exact j_iret C rfl (bo_nar (Or.inr rfl)) (Nat.le_refl _) (Nat.le_refl _) dX9_isThing_57
          · replace h := (if_neg hx9).symm.trans h
            by_cases hx10 : a1 = (4 : Int32)
            · replace h := (if_pos hx10).symm.trans h
              refine j_tableIn (off := 57) (tgt := 58) C (fun q => hs1 (Or.inl q)) (fun q => hs1 (Or.inr q)) (by rw [hx10]; rfl) (by decide) dX9_isThing_1 ?_
              refine j_iconst (v := 1) C (by decide) dX9_isThing_58 ?_
              obtain rfl := Option.some.inj h
              exact j_iret C rfl (bo_nar (Or.inr rfl)) (Nat.le_refl _) (Nat.le_refl _) dX9_isThing_59
            · replace h := (if_neg hx10).symm.trans h
              cases h
set_option maxRecDepth 100000 in
set_option maxHeartbeats 4000000 in
theorem c_X9_isThing {l : Launch} {g : Gc} {ad : Nat → Nat → Nat} {χ : Mem} {T : Nat → Mem} {σ : Mem} {a1 : Int32} {a2 : Int32} {rr : Int32} (h : f_X9_isThing χ T a1 a2 = some rr) : Met l yX9_isThing (WS yX9_isThing cX9_isThing 3 (some .boolean)) rm_X9_isThing (PreW g ad χ T σ [.ref (ad 5 0), .int a1, .int a2]) (PoI g ad χ T σ rr) 0 0 (geB g) := by
  refine j_metW (by decide) (Nat.le_of_ble_eq_true rfl) fun p e s m below meth c C hname => ?_
  rw [f_X9_isThing] at h
  exact j_sub [0, 1, 2] rfl (t_X9_isThing_0 C a1 a2 h)
set_option maxRecDepth 100000 in
set_option maxHeartbeats 4000000 in
theorem t_X9_rowOf_0 {T : Nat → Mem} {σ : Mem} {χ : Mem} (C : Cx p s m args meth c cX9_rowOf 3 RX9 (some (.object "RodBench$Row")) COM g) {rr : Option Nat} (a1 : Nat) (a2 : Int32) (h : f_X9_rowOf_0 χ a1 a2 = some rr) : JJ p l e rm_X9_rowOf s m args below meth c 3 g ad (MQ below (PoR g ad χ T σ ((rr).map (ad 20))) args s 0 0 (geB g)) χ T σ 0 0 [(0, va_rf (thA ad a1)), (1, .int a2)] 0 [] := by
  rw [f_X9_rowOf_0] at h
  refine j_aload_nR C 0 rfl rfl dX9_rowOf_0 ?_
  obtain ⟨hg1, h⟩ := gd_some h
  refine j_instRow C (TVb_ok hg1) mw_923 dX9_rowOf_1 ?_
  refine j_if_eq (tgt := 24) C (by decide) dX9_rowOf_4 (fun hc2 => ?_) (fun hc2 => ?_)
  · replace h := (if_pos hc2).symm.trans h
    refine j_null C dX9_rowOf_24 ?_
    obtain rfl := Option.some.inj h
    exact j_aret (v := ((none : Option Nat).map (ad 20))) C rfl (Or.inl ⟨_, rfl⟩) (Nat.le_refl _) (Nat.le_refl _) dX9_rowOf_25
  · replace h := (if_neg hc2).symm.trans h
    refine j_aload_nR C 0 rfl rfl dX9_rowOf_7 ?_
    obtain ⟨hg3, h⟩ := gd_some h
    refine j_castRow C (TVb_ok hg1) hg3 mw_923 dX9_rowOf_8 ?_
    refine j_astore_n (L' := [(2, .ref (ad 20 (a1 / 2 - 1))), (0, va_rf (thA ad a1)), (1, .int a2)]) C rfl (by decide) (by generalize thA ad a1 = r9; cases r9 <;> rfl) dX9_rowOf_11 ?_
    refine j_aload_n C 0 rfl rfl dX9_rowOf_12 ?_
    refine j_getG C in_X6 (by decide) (cw_20 (χ := χ) ((TVb_ok hg1).2 hg3.1 hg3.2)) rfl 0 (by decide) mw_933 (fun _ h => h) rfl dX9_rowOf_13 ?_
    refine j_iload_n C 2 rfl rfl dX9_rowOf_16 ?_
    refine j_icmp_ne (tgt := 24) C (by decide) dX9_rowOf_17 (fun hc4 => ?_) (fun hc4 => ?_)
    · replace h := (if_neg hc4).symm.trans h
      refine j_null C dX9_rowOf_24 ?_
      obtain rfl := Option.some.inj h
      exact j_aret (v := ((none : Option Nat).map (ad 20))) C rfl (Or.inl ⟨_, rfl⟩) (Nat.le_refl _) (Nat.le_refl _) dX9_rowOf_25
    · replace h := (if_pos hc4).symm.trans h
      refine j_aload_n C 0 rfl rfl dX9_rowOf_20 ?_
      refine j_goto (tgt := 25) C (by decide) dX9_rowOf_21 ?_
      obtain rfl := Option.some.inj h
      exact j_aret (v := ((some (a1 / 2 - 1)).map (ad 20))) C rfl (Or.inl ⟨_, rfl⟩) (Nat.le_refl _) (Nat.le_refl _) dX9_rowOf_25
set_option maxRecDepth 100000 in
set_option maxHeartbeats 4000000 in
theorem c_X9_rowOf {l : Launch} {g : Gc} {ad : Nat → Nat → Nat} {χ : Mem} {T : Nat → Mem} {σ : Mem} {a1 : Nat} {a2 : Int32} {rr : Option Nat} (h : f_X9_rowOf χ a1 a2 = some rr) : Met l yX9_rowOf (WS yX9_rowOf cX9_rowOf 3 (some (.object "RodBench$Row"))) rm_X9_rowOf (PreW g ad χ T σ [va_rf (thA ad a1), .int a2]) (PoR g ad χ T σ ((rr).map (ad 20))) 0 0 (geB g) := by
  refine j_metW (by decide) (by generalize thA ad a1 = r; cases r <;> exact Nat.le_of_ble_eq_true rfl) fun p e s m below meth c C hname => ?_
  rw [f_X9_rowOf] at h
  exact j_sub [0, 1] (by generalize thA ad a1 = r; cases r <;> rfl) (t_X9_rowOf_0 C a1 a2 h)
set_option maxRecDepth 100000 in
set_option maxHeartbeats 4000000 in
theorem t_X9_refuseRow_12 {σ : Mem} (C : Cx p s m args meth c cX9_refuseRow 2 RX9 (some .int) COM g) {rr : (Mem × (Nat → Mem)) × Int32} (χ : Mem) (T : Nat → Mem) (s0 : Int32) (h : f_X9_refuseRow_12 χ T s0 = some rr) : JJ p l e rm_X9_refuseRow s m args below meth c 2 g ad (MQ below (PoI g ad rr.1.1 rr.1.2 σ rr.2) args s 0 0 (geB g)) χ T σ 0 0 [] 12 [.int s0, .ref (ad 5 0)] := by
  rw [f_X9_refuseRow_12] at h
  obtain ⟨q1, hq1, h⟩ := bi_some h
  refine j_callVi (As := [.int s0]) (rest := []) C (c_X9_refuse hq1) (cwV 1 C.ts (good_V mw_909 mw_911 mw_23 mw_72 mw_912) rfl rfl rfl (by decide +kernel) ⟨Nat.le_of_ble_eq_true rfl, Nat.le_of_ble_eq_true rfl⟩) (fun H hW => CW.rv C.k hW (by decide) cw_5 rfl) rfl rfl (Nat.le_of_ble_eq_true rfl) dX9_refuseRow_12 ⟨Nat.zero_le _, Nat.zero_le _⟩ ?_
  obtain rfl := Option.some.inj h
  exact j_iret C rfl rfl (Nat.le_refl _) (Nat.le_refl _) dX9_refuseRow_15
set_option maxRecDepth 100000 in
set_option maxHeartbeats 4000000 in
theorem t_X9_refuseRow_0 {σ : Mem} (C : Cx p s m args meth c cX9_refuseRow 2 RX9 (some .int) COM g) {rr : (Mem × (Nat → Mem)) × Int32} (χ : Mem) (T : Nat → Mem) (a1 : Nat) (h : f_X9_refuseRow_0 χ T a1 = some rr) : JJ p l e rm_X9_refuseRow s m args below meth c 2 g ad (MQ below (PoI g ad rr.1.1 rr.1.2 σ rr.2) args s 0 0 (geB g)) χ T σ 0 0 [(0, .ref (ad 5 0)), (1, va_rf (thA ad a1))] 0 [] := by
  rw [f_X9_refuseRow_0] at h
  refine j_aload_n C 0 rfl rfl dX9_refuseRow_0 ?_
  refine j_aload_nR C 1 rfl rfl dX9_refuseRow_1 ?_
  refine j_ifnonnullT (tgt := 10) C (by decide) dX9_refuseRow_2 (fun hc1 => ?_) (fun hc1 => ?_)
  · replace h := (if_pos hc1).symm.trans h
    refine j_bipush (v := 10) C (by decide) dX9_refuseRow_5 ?_
    refine j_goto (tgt := 12) C (by decide) dX9_refuseRow_7 ?_
    exact j_sub [] rfl (t_X9_refuseRow_12 C χ T (10 : Int32) h)
  · replace h := (if_neg hc1).symm.trans h
    refine j_bipush (v := 11) C (by decide) dX9_refuseRow_10 ?_
    exact j_sub [] rfl (t_X9_refuseRow_12 C χ T (11 : Int32) h)
set_option maxRecDepth 100000 in
set_option maxHeartbeats 4000000 in
theorem c_X9_refuseRow {l : Launch} {g : Gc} {ad : Nat → Nat → Nat} {χ : Mem} {T : Nat → Mem} {σ : Mem} {a1 : Nat} {rr : (Mem × (Nat → Mem)) × Int32} (h : f_X9_refuseRow χ T a1 = some rr) : Met l yX9_refuseRow (WS yX9_refuseRow cX9_refuseRow 2 (some .int)) rm_X9_refuseRow (PreW g ad χ T σ [.ref (ad 5 0), va_rf (thA ad a1)]) (PoI g ad rr.1.1 rr.1.2 σ rr.2) 0 0 (geB g) := by
  refine j_metW (by decide) (by generalize thA ad a1 = r; cases r <;> exact Nat.le_of_ble_eq_true rfl) fun p e s m below meth c C hname => ?_
  rw [f_X9_refuseRow] at h
  exact j_sub [0, 1] (by generalize thA ad a1 = r; cases r <;> rfl) (t_X9_refuseRow_0 C χ T a1 h)
set_option maxRecDepth 100000 in
set_option maxHeartbeats 4000000 in
theorem t_X9_firstPinAs_43 {σ : Mem} (C : Cx p s m args meth c cX9_firstPinAs 4 RX9 (some .int) COM g) {rr : (Mem × (Nat → Mem)) × Int32} (χ : Mem) (T : Nat → Mem) (h : f_X9_firstPinAs_43 χ T = some rr) : JJ p l e rm_X9_firstPinAs s m args below meth c 4 g ad (MQ below (PoI g ad rr.1.1 rr.1.2 σ rr.2) args s 0 0 (geB g)) χ T σ 0 0 [(0, .ref (ad 5 0))] 43 [] := by
  rw [f_X9_firstPinAs_43] at h
  refine j_aload_n C 0 rfl rfl dX9_firstPinAs_43 ?_
  refine j_bipush (v := 11) C (by decide) dX9_firstPinAs_44 ?_
  obtain ⟨q1, hq1, h⟩ := bi_some h
  refine j_callVi (As := [.int (11 : Int32)]) (rest := []) C (c_X9_refuse hq1) (cwV 1 C.ts (good_V mw_909 mw_911 mw_23 mw_72 mw_912) rfl rfl rfl (by decide +kernel) ⟨Nat.le_of_ble_eq_true rfl, Nat.le_of_ble_eq_true rfl⟩) (fun H hW => CW.rv C.k hW (by decide) cw_5 rfl) rfl rfl (Nat.le_of_ble_eq_true rfl) dX9_firstPinAs_46 ⟨Nat.zero_le _, Nat.zero_le _⟩ ?_
  obtain rfl := Option.some.inj h
  exact j_iret C rfl rfl (Nat.le_refl _) (Nat.le_refl _) dX9_firstPinAs_49
set_option maxRecDepth 100000 in
set_option maxHeartbeats 4000000 in
theorem t_X9_firstPinAs_0 {σ : Mem} (C : Cx p s m args meth c cX9_firstPinAs 4 RX9 (some .int) COM g) {rr : (Mem × (Nat → Mem)) × Int32} (χ : Mem) (T : Nat → Mem) (a1 : Nat) (a2 : Int32) (h : f_X9_firstPinAs_0 χ T a1 a2 = some rr) : JJ p l e rm_X9_firstPinAs s m args below meth c 4 g ad (MQ below (PoI g ad rr.1.1 rr.1.2 σ rr.2) args s 0 0 (geB g)) χ T σ 0 0 [(0, .ref (ad 5 0)), (1, va_rf (thA ad a1)), (2, .int a2)] 0 [] := by
  rw [f_X9_firstPinAs_0] at h
  refine j_aload_nR C 1 rfl rfl dX9_firstPinAs_0 ?_
  refine j_ifnonnullT (tgt := 11) C (by decide) dX9_firstPinAs_1 (fun hc1 => ?_) (fun hc1 => ?_)
  · replace h := (if_pos hc1).symm.trans h
    refine j_aload_n C 0 rfl rfl dX9_firstPinAs_4 ?_
    refine j_bipush (v := 10) C (by decide) dX9_firstPinAs_5 ?_
    obtain ⟨q2, hq2, h⟩ := bi_some h
    refine j_callVi (As := [.int (10 : Int32)]) (rest := []) C (c_X9_refuse hq2) (cwV 1 C.ts (good_V mw_909 mw_911 mw_23 mw_72 mw_912) rfl rfl rfl (by decide +kernel) ⟨Nat.le_of_ble_eq_true rfl, Nat.le_of_ble_eq_true rfl⟩) (fun H hW => CW.rv C.k hW (by decide) cw_5 rfl) rfl rfl (Nat.le_of_ble_eq_true rfl) dX9_firstPinAs_7 ⟨Nat.zero_le _, Nat.zero_le _⟩ ?_
    obtain rfl := Option.some.inj h
    exact j_iret C rfl rfl (Nat.le_refl _) (Nat.le_refl _) dX9_firstPinAs_10
  · replace h := (if_neg hc1).symm.trans h
    refine j_aload_nR C 1 rfl rfl dX9_firstPinAs_11 ?_
    obtain ⟨hg3, h⟩ := gd_some h
    refine j_instRod C (TVb_ok hg3) mw_947 dX9_firstPinAs_12 ?_
    refine j_if_eq (tgt := 43) C (by decide) dX9_firstPinAs_15 (fun hc4 => ?_) (fun hc4 => ?_)
    · replace h := (if_pos hc4).symm.trans h
      exact j_sub [0] rfl (t_X9_firstPinAs_43 C χ T h)
    · replace h := (if_neg hc4).symm.trans h
      refine j_aload_nR C 1 rfl rfl dX9_firstPinAs_18 ?_
      obtain ⟨hg5, h⟩ := gd_some h
      refine j_castRod C (TVb_ok hg3) hg5 mw_947 dX9_firstPinAs_19 ?_
      refine j_astore_n (L' := [(3, .ref (ad 19 (a1 / 2))), (0, .ref (ad 5 0)), (1, va_rf (thA ad a1)), (2, .int a2)]) C rfl (by decide) (by generalize thA ad a1 = r9; cases r9 <;> rfl) dX9_firstPinAs_22 ?_
      refine j_aload_n C 0 rfl rfl dX9_firstPinAs_23 ?_
      refine j_iload_n C 3 rfl rfl dX9_firstPinAs_24 ?_
      obtain ⟨q6, hq6, h⟩ := bi_some h
      refine j_callVi (As := [.int a2]) (rest := []) C (c_X5_isOf ((TVb_ok hg3).1 hg5) hq6) (cwV 1 C.ts (good_V mw_967 mw_689 mw_690 mw_82 mw_691) rfl rfl rfl (by decide +kernel) ⟨Nat.le_of_ble_eq_true rfl, Nat.le_of_ble_eq_true rfl⟩) (fun H hW => CW.rv C.k hW (by decide) (cw_19 (χ := χ) ((TVb_ok hg3).1 hg5)) rfl) rfl rfl (Nat.le_of_ble_eq_true rfl) dX9_firstPinAs_25 ⟨Nat.zero_le _, Nat.zero_le _⟩ ?_
      refine j_if_eq (tgt := 43) C (by decide) dX9_firstPinAs_28 (fun hc7 => ?_) (fun hc7 => ?_)
      · replace h := (if_pos hc7).symm.trans h
        exact j_sub [1] rfl (t_X9_firstPinAs_43 C χ T h)
      · replace h := (if_neg hc7).symm.trans h
        refine j_aload_n C 1 rfl rfl dX9_firstPinAs_31 ?_
        refine j_aload_n C 0 rfl rfl dX9_firstPinAs_32 ?_
        refine j_getG C in_X5 (by decide) (cw_19 (χ := χ) ((TVb_ok hg3).1 hg5)) rfl 2 (by decide) mw_652 (fun _ h => h) rfl dX9_firstPinAs_33 ?_
        refine j_wt (fun wt8 => ?_)
        refine j_getG C in_X4 (by decide) (cw_18 (χ := χ) (wt8.2.1 _ ((TVb_ok hg3).1 hg5)).1) rfl 0 (by decide) mw_335 (fun _ h => h) rfl dX9_firstPinAs_36 ?_
        obtain ⟨q9, hq9, h⟩ := bi_some h
        refine j_callVi (As := [.int (gI χ 0 (gN χ 6 (a1 / 2)))]) (rest := []) C (c_X9_done hq9) (cwV 1 C.ts (good_V mw_948 mw_950 mw_27 mw_72 mw_951) rfl rfl rfl (by decide +kernel) ⟨Nat.le_of_ble_eq_true rfl, Nat.le_of_ble_eq_true rfl⟩) (fun H hW => CW.rv C.k hW (by decide) cw_5 rfl) rfl rfl (Nat.le_of_ble_eq_true rfl) dX9_firstPinAs_39 ⟨Nat.zero_le _, Nat.zero_le _⟩ ?_
        obtain rfl := Option.some.inj h
        exact j_iret C rfl rfl (Nat.le_refl _) (Nat.le_refl _) dX9_firstPinAs_42
set_option maxRecDepth 100000 in
set_option maxHeartbeats 4000000 in
theorem c_X9_firstPinAs {l : Launch} {g : Gc} {ad : Nat → Nat → Nat} {χ : Mem} {T : Nat → Mem} {σ : Mem} {a1 : Nat} {a2 : Int32} {rr : (Mem × (Nat → Mem)) × Int32} (h : f_X9_firstPinAs χ T a1 a2 = some rr) : Met l yX9_firstPinAs (WS yX9_firstPinAs cX9_firstPinAs 4 (some .int)) rm_X9_firstPinAs (PreW g ad χ T σ [.ref (ad 5 0), va_rf (thA ad a1), .int a2]) (PoI g ad rr.1.1 rr.1.2 σ rr.2) 0 0 (geB g) := by
  refine j_metW (by decide) (by generalize thA ad a1 = r; cases r <;> exact Nat.le_of_ble_eq_true rfl) fun p e s m below meth c C hname => ?_
  rw [f_X9_firstPinAs] at h
  exact j_sub [0, 1, 2] (by generalize thA ad a1 = r; cases r <;> rfl) (t_X9_firstPinAs_0 C χ T a1 a2 h)
set_option maxRecDepth 100000 in
set_option maxHeartbeats 4000000 in
theorem t_X9_howManyAre_22 {σ : Mem} (C : Cx p s m args meth c cX9_howManyAre 6 RX9 (some .int) COM g) {rr : (Mem × (Nat → Mem)) × Int32} : ∀ (n : Nat) (χ : Mem) (T : Nat → Mem) (v2 : Int32) (v3 : Nat) (v4 : Int32) (v5 : Int32) (hv3 : v3 < gN χ 8 2) (h : f_X9_howManyAre_22 n χ T v2 v3 v4 v5 = some rr), JJ p l e rm_X9_howManyAre s m args below meth c 6 g ad (MQ below (PoI g ad rr.1.1 rr.1.2 σ rr.2) args s 0 0 (geB g)) χ T σ 0 0 [(0, .ref (ad 5 0)), (2, .int v2), (3, .ref (ad 20 v3)), (4, .int v4), (5, .int v5)] 22 [] := by
  intro n
  induction n with
  | zero => intro  χ T v2 v3 v4 v5 hv3 h; cases h
  | succ n ih =>
  intro  χ T v2 v3 v4 v5 hv3 h
  rw [f_X9_howManyAre_22] at h
  refine j_iload C 4 rfl dX9_howManyAre_22 ?_
  refine j_aload_n C 2 rfl rfl dX9_howManyAre_24 ?_
  refine j_getG C in_X6 (by decide) (cw_20 (χ := χ) hv3) rfl 1 (by decide) mw_935 (fun _ h => h) rfl dX9_howManyAre_25 ?_
  refine j_lalen C (by decide) (cw_21 (χ := χ) hv3) dX9_howManyAre_28 ?_
  refine j_icmp_ge (tgt := 54) C (by decide) dX9_howManyAre_29 (fun hc1 => ?_) (fun hc1 => ?_)
  · replace h := (if_pos hc1).symm.trans h
    refine j_aload_n C 0 rfl rfl dX9_howManyAre_54 ?_
    refine j_iload C 3 rfl dX9_howManyAre_55 ?_
    obtain ⟨q2, hq2, h⟩ := bi_some h
    refine j_callVi (As := [.int v4]) (rest := []) C (c_X9_done hq2) (cwV 1 C.ts (good_V mw_948 mw_950 mw_27 mw_72 mw_951) rfl rfl rfl (by decide +kernel) ⟨Nat.le_of_ble_eq_true rfl, Nat.le_of_ble_eq_true rfl⟩) (fun H hW => CW.rv C.k hW (by decide) cw_5 rfl) rfl rfl (Nat.le_of_ble_eq_true rfl) dX9_howManyAre_57 ⟨Nat.zero_le _, Nat.zero_le _⟩ ?_
    obtain rfl := Option.some.inj h
    exact j_iret C rfl rfl (Nat.le_refl _) (Nat.le_refl _) dX9_howManyAre_60
  · replace h := (if_neg hc1).symm.trans h
    refine j_aload_n C 2 rfl rfl dX9_howManyAre_32 ?_
    refine j_getG C in_X6 (by decide) (cw_20 (χ := χ) hv3) rfl 1 (by decide) mw_935 (fun _ h => h) rfl dX9_howManyAre_33 ?_
    refine j_iload C 4 rfl dX9_howManyAre_36 ?_
    obtain ⟨hg3, h⟩ := gd_some h
    refine j_lald C (by decide) (cw_21 (χ := χ) hv3) hg3 dX9_howManyAre_38 ?_
    refine j_iload_n C 1 rfl rfl dX9_howManyAre_39 ?_
    refine j_i2l C dX9_howManyAre_40 ?_
    refine j_lcmp_ne (tgt := 48) C dX9_howManyAre_42 (by decide) dX9_howManyAre_41 (fun hc4 => ?_) (fun hc4 => ?_)
    · replace h := (if_neg hc4).symm.trans h
      refine j_iinc (v := v5 + (1 : Int32)) (L' := [(5, .int (v5 + (1 : Int32))), (0, .ref (ad 5 0)), (2, .int v2), (3, .ref (ad 20 v3)), (4, .int v4)]) C 4 rfl rfl (by decide) rfl dX9_howManyAre_48 ?_
      refine j_goto (tgt := 22) C (by decide) dX9_howManyAre_51 ?_
      exact j_sub [1, 2, 3, 4, 0] rfl (ih χ T v2 v3 v4 (v5 + (1 : Int32)) hv3 h)
    · replace h := (if_pos hc4).symm.trans h
      refine j_iinc (v := v4 + (1 : Int32)) (L' := [(4, .int (v4 + (1 : Int32))), (0, .ref (ad 5 0)), (2, .int v2), (3, .ref (ad 20 v3)), (5, .int v5)]) C 3 rfl rfl (by decide) rfl dX9_howManyAre_45 ?_
      refine j_iinc (v := v5 + (1 : Int32)) (L' := [(5, .int (v5 + (1 : Int32))), (4, .int (v4 + (1 : Int32))), (0, .ref (ad 5 0)), (2, .int v2), (3, .ref (ad 20 v3))]) C 4 rfl rfl (by decide) rfl dX9_howManyAre_48 ?_
      refine j_goto (tgt := 22) C (by decide) dX9_howManyAre_51 ?_
      exact j_sub [2, 3, 4, 1, 0] rfl (ih χ T v2 v3 (v4 + (1 : Int32)) (v5 + (1 : Int32)) hv3 h)
set_option maxRecDepth 100000 in
set_option maxHeartbeats 4000000 in
theorem t_X9_howManyAre_0 {σ : Mem} (C : Cx p s m args meth c cX9_howManyAre 6 RX9 (some .int) COM g) {rr : (Mem × (Nat → Mem)) × Int32} (χ : Mem) (T : Nat → Mem) (a1 : Nat) (a2 : Int32) (h : f_X9_howManyAre_0 χ T a1 a2 = some rr) : JJ p l e rm_X9_howManyAre s m args below meth c 6 g ad (MQ below (PoI g ad rr.1.1 rr.1.2 σ rr.2) args s 0 0 (geB g)) χ T σ 0 0 [(0, .ref (ad 5 0)), (1, va_rf (thA ad a1)), (2, .int a2)] 0 [] := by
  rw [f_X9_howManyAre_0] at h
  refine j_aload_nR C 1 rfl rfl dX9_howManyAre_0 ?_
  refine j_iconst (v := 2) C (by decide) dX9_howManyAre_1 ?_
  obtain ⟨q1, hq1, h⟩ := bi_some h
  refine j_callSq (As := [va_rf (thA ad a1), .int (2 : Int32)]) (rest := []) C (c_X9_rowOf hq1) (va_cwS 2 C.ts (good_S mw_972 mw_973 mw_72 mw_974) rfl rfl rfl (by decide +kernel) ⟨Nat.le_of_ble_eq_true rfl, Nat.le_of_ble_eq_true rfl⟩) rfl rfl (Nat.le_of_ble_eq_true rfl) dX9_howManyAre_2 ⟨Nat.zero_le _, Nat.zero_le _⟩ ?_
  refine j_astore_nR (L' := [(3, va_rf ((q1).map (ad 20))), (0, .ref (ad 5 0)), (1, va_rf (thA ad a1)), (2, .int a2)]) C rfl (by decide) (by generalize thA ad a1 = r9; cases r9 <;> rfl) dX9_howManyAre_5 ?_
  refine j_aload_nR C 0 rfl rfl dX9_howManyAre_6 ?_
  cases q1 with
  | none =>
    dsimp only at h
    refine j_ifnonnullN C dX9_howManyAre_7 ?_
    refine j_aload_n C 1 rfl rfl dX9_howManyAre_10 ?_
    refine j_aload_nR C 2 rfl rfl dX9_howManyAre_11 ?_
    obtain ⟨q4, hq4, h⟩ := bi_some h
    refine j_callVi (As := [va_rf (thA ad a1)]) (rest := []) C (c_X9_refuseRow hq4) (cwV 1 C.ts (good_V mw_975 mw_977 mw_30 mw_72 mw_978) rfl rfl rfl (by decide +kernel) ⟨Nat.le_of_ble_eq_true rfl, Nat.le_of_ble_eq_true rfl⟩) (fun H hW => CW.rv C.k hW (by decide) cw_5 rfl) rfl rfl (Nat.le_of_ble_eq_true rfl) dX9_howManyAre_12 ⟨Nat.zero_le _, Nat.zero_le _⟩ ?_
    obtain rfl := Option.some.inj h
    exact j_iret C rfl rfl (Nat.le_refl _) (Nat.le_refl _) dX9_howManyAre_15
  | some i2 =>
    dsimp only at h
    refine j_ifnonnullS (tgt := 16) C (by decide) dX9_howManyAre_7 ?_
    obtain ⟨hg3, h⟩ := gd_some h
    refine j_iconst (v := 0) C (by decide) dX9_howManyAre_16 ?_
    refine j_istore (L' := [(4, .int (0 : Int32)), (3, .ref (ad 20 i2)), (0, .ref (ad 5 0)), (1, va_rf (thA ad a1)), (2, .int a2)]) C (by decide) (by generalize thA ad a1 = r9; cases r9 <;> rfl) dX9_howManyAre_17 ?_
    refine j_iconst (v := 0) C (by decide) dX9_howManyAre_19 ?_
    refine j_istore (L' := [(5, .int (0 : Int32)), (4, .int (0 : Int32)), (3, .ref (ad 20 i2)), (0, .ref (ad 5 0)), (1, va_rf (thA ad a1)), (2, .int a2)]) C (by decide) (by generalize thA ad a1 = r9; cases r9 <;> rfl) dX9_howManyAre_20 ?_
    exact j_sub [3, 5, 2, 1, 0] rfl (t_X9_howManyAre_22 C FU χ T a2 i2 (0 : Int32) (0 : Int32) hg3 h)
set_option maxRecDepth 100000 in
set_option maxHeartbeats 4000000 in
theorem c_X9_howManyAre {l : Launch} {g : Gc} {ad : Nat → Nat → Nat} {χ : Mem} {T : Nat → Mem} {σ : Mem} {a1 : Nat} {a2 : Int32} {rr : (Mem × (Nat → Mem)) × Int32} (h : f_X9_howManyAre χ T a1 a2 = some rr) : Met l yX9_howManyAre (WS yX9_howManyAre cX9_howManyAre 6 (some .int)) rm_X9_howManyAre (PreW g ad χ T σ [.ref (ad 5 0), va_rf (thA ad a1), .int a2]) (PoI g ad rr.1.1 rr.1.2 σ rr.2) 0 0 (geB g) := by
  refine j_metW (by decide) (by generalize thA ad a1 = r; cases r <;> exact Nat.le_of_ble_eq_true rfl) fun p e s m below meth c C hname => ?_
  rw [f_X9_howManyAre] at h
  exact j_sub [0, 1, 2] (by generalize thA ad a1 = r; cases r <;> rfl) (t_X9_howManyAre_0 C χ T a1 a2 h)
set_option maxRecDepth 100000 in
set_option maxHeartbeats 4000000 in
theorem t_X9_numberAt_32 {σ : Mem} (C : Cx p s m args meth c cX9_numberAt 5 RX9 (some .int) COM g) {rr : (Mem × (Nat → Mem)) × Int32} (χ : Mem) (T : Nat → Mem) (h : f_X9_numberAt_32 χ T = some rr) : JJ p l e rm_X9_numberAt s m args below meth c 5 g ad (MQ below (PoI g ad rr.1.1 rr.1.2 σ rr.2) args s 0 0 (geB g)) χ T σ 0 0 [(0, .ref (ad 5 0))] 32 [] := by
  rw [f_X9_numberAt_32] at h
  refine j_aload_n C 0 rfl rfl dX9_numberAt_32 ?_
  refine j_bipush (v := 12) C (by decide) dX9_numberAt_33 ?_
  obtain ⟨q1, hq1, h⟩ := bi_some h
  refine j_callVi (As := [.int (12 : Int32)]) (rest := []) C (c_X9_refuse hq1) (cwV 1 C.ts (good_V mw_909 mw_911 mw_23 mw_72 mw_912) rfl rfl rfl (by decide +kernel) ⟨Nat.le_of_ble_eq_true rfl, Nat.le_of_ble_eq_true rfl⟩) (fun H hW => CW.rv C.k hW (by decide) cw_5 rfl) rfl rfl (Nat.le_of_ble_eq_true rfl) dX9_numberAt_35 ⟨Nat.zero_le _, Nat.zero_le _⟩ ?_
  obtain rfl := Option.some.inj h
  exact j_iret C rfl rfl (Nat.le_refl _) (Nat.le_refl _) dX9_numberAt_38
set_option maxRecDepth 100000 in
set_option maxHeartbeats 4000000 in
theorem t_X9_numberAt_0 {σ : Mem} (C : Cx p s m args meth c cX9_numberAt 5 RX9 (some .int) COM g) {rr : (Mem × (Nat → Mem)) × Int32} (χ : Mem) (T : Nat → Mem) (a1 : Nat) (a2 : Int32) (a3 : Int32) (h : f_X9_numberAt_0 χ T a1 a2 a3 = some rr) : JJ p l e rm_X9_numberAt s m args below meth c 5 g ad (MQ below (PoI g ad rr.1.1 rr.1.2 σ rr.2) args s 0 0 (geB g)) χ T σ 0 0 [(0, .ref (ad 5 0)), (1, va_rf (thA ad a1)), (2, .int a2), (3, .int a3)] 0 [] := by
  rw [f_X9_numberAt_0] at h
  refine j_aload_nR C 1 rfl rfl dX9_numberAt_0 ?_
  refine j_iload_n C 2 rfl rfl dX9_numberAt_1 ?_
  obtain ⟨q1, hq1, h⟩ := bi_some h
  refine j_callSq (As := [va_rf (thA ad a1), .int a2]) (rest := []) C (c_X9_rowOf hq1) (va_cwS 2 C.ts (good_S mw_972 mw_973 mw_72 mw_974) rfl rfl rfl (by decide +kernel) ⟨Nat.le_of_ble_eq_true rfl, Nat.le_of_ble_eq_true rfl⟩) rfl rfl (Nat.le_of_ble_eq_true rfl) dX9_numberAt_2 ⟨Nat.zero_le _, Nat.zero_le _⟩ ?_
  refine j_astoreR (L' := [(4, va_rf ((q1).map (ad 20))), (0, .ref (ad 5 0)), (1, va_rf (thA ad a1)), (2, .int a2), (3, .int a3)]) C (by decide) (by generalize thA ad a1 = r9; cases r9 <;> rfl) dX9_numberAt_5 ?_
  refine j_aloadR C 0 rfl dX9_numberAt_7 ?_
  cases q1 with
  | none =>
    dsimp only at h
    refine j_ifnonnullN C dX9_numberAt_9 ?_
    refine j_aload_n C 1 rfl rfl dX9_numberAt_12 ?_
    refine j_aload_nR C 2 rfl rfl dX9_numberAt_13 ?_
    obtain ⟨q4, hq4, h⟩ := bi_some h
    refine j_callVi (As := [va_rf (thA ad a1)]) (rest := []) C (c_X9_refuseRow hq4) (cwV 1 C.ts (good_V mw_975 mw_977 mw_30 mw_72 mw_978) rfl rfl rfl (by decide +kernel) ⟨Nat.le_of_ble_eq_true rfl, Nat.le_of_ble_eq_true rfl⟩) (fun H hW => CW.rv C.k hW (by decide) cw_5 rfl) rfl rfl (Nat.le_of_ble_eq_true rfl) dX9_numberAt_14 ⟨Nat.zero_le _, Nat.zero_le _⟩ ?_
    obtain rfl := Option.some.inj h
    exact j_iret C rfl rfl (Nat.le_refl _) (Nat.le_refl _) dX9_numberAt_17
  | some i2 =>
    dsimp only at h
    refine j_ifnonnullS (tgt := 18) C (by decide) dX9_numberAt_9 ?_
    obtain ⟨hg3, h⟩ := gd_some h
    refine j_iload_n C 4 rfl rfl dX9_numberAt_18 ?_
    refine j_if_lt (tgt := 32) C (by decide) dX9_numberAt_19 (fun hc5 => ?_) (fun hc5 => ?_)
    · replace h := (if_pos hc5).symm.trans h
      exact j_sub [1] rfl (t_X9_numberAt_32 C χ T h)
    · replace h := (if_neg hc5).symm.trans h
      refine j_iload_n C 4 rfl rfl dX9_numberAt_22 ?_
      refine j_aload C 0 rfl dX9_numberAt_23 ?_
      refine j_getG C in_X6 (by decide) (cw_20 (χ := χ) hg3) rfl 1 (by decide) mw_935 (fun _ h => h) rfl dX9_numberAt_25 ?_
      refine j_lalen C (by decide) (cw_21 (χ := χ) hg3) dX9_numberAt_28 ?_
      refine j_icmp_lt (tgt := 39) C (by decide) dX9_numberAt_29 (fun hc6 => ?_) (fun hc6 => ?_)
      · replace h := (if_pos hc6).symm.trans h
        refine j_aload_n C 1 rfl rfl dX9_numberAt_39 ?_
        refine j_aload C 0 rfl dX9_numberAt_40 ?_
        refine j_getG C in_X6 (by decide) (cw_20 (χ := χ) hg3) rfl 1 (by decide) mw_935 (fun _ h => h) rfl dX9_numberAt_42 ?_
        refine j_iload_n C 4 rfl rfl dX9_numberAt_45 ?_
        obtain ⟨hg7, h⟩ := gd_some h
        refine j_lald C (by decide) (cw_21 (χ := χ) hg3) hg7 dX9_numberAt_46 ?_
        refine j_l2i C dX9_numberAt_47 ?_
        obtain ⟨q8, hq8, h⟩ := bi_some h
        refine j_callVi (As := [.int ((gL χ i2 a3.toNatClampNeg).toInt32)]) (rest := []) C (c_X9_done hq8) (cwV 1 C.ts (good_V mw_948 mw_950 mw_27 mw_72 mw_951) rfl rfl rfl (by decide +kernel) ⟨Nat.le_of_ble_eq_true rfl, Nat.le_of_ble_eq_true rfl⟩) (fun H hW => CW.rv C.k hW (by decide) cw_5 rfl) rfl rfl (Nat.le_of_ble_eq_true rfl) dX9_numberAt_48 ⟨Nat.zero_le _, Nat.zero_le _⟩ ?_
        obtain rfl := Option.some.inj h
        exact j_iret C rfl rfl (Nat.le_refl _) (Nat.le_refl _) dX9_numberAt_51
      · replace h := (if_neg hc6).symm.trans h
        exact j_sub [1] rfl (t_X9_numberAt_32 C χ T h)
set_option maxRecDepth 100000 in
set_option maxHeartbeats 4000000 in
theorem c_X9_numberAt {l : Launch} {g : Gc} {ad : Nat → Nat → Nat} {χ : Mem} {T : Nat → Mem} {σ : Mem} {a1 : Nat} {a2 : Int32} {a3 : Int32} {rr : (Mem × (Nat → Mem)) × Int32} (h : f_X9_numberAt χ T a1 a2 a3 = some rr) : Met l yX9_numberAt (WS yX9_numberAt cX9_numberAt 5 (some .int)) rm_X9_numberAt (PreW g ad χ T σ [.ref (ad 5 0), va_rf (thA ad a1), .int a2, .int a3]) (PoI g ad rr.1.1 rr.1.2 σ rr.2) 0 0 (geB g) := by
  refine j_metW (by decide) (by generalize thA ad a1 = r; cases r <;> exact Nat.le_of_ble_eq_true rfl) fun p e s m below meth c C hname => ?_
  rw [f_X9_numberAt] at h
  exact j_sub [0, 1, 2, 3] (by generalize thA ad a1 = r; cases r <;> rfl) (t_X9_numberAt_0 C χ T a1 a2 a3 h)
set_option maxRecDepth 100000 in
set_option maxHeartbeats 4000000 in
theorem t_X9_sumOfCopied_52 {σ : Mem} (C : Cx p s m args meth c cX9_sumOfCopied 6 RX9 (some .int) COM g) {rr : (Mem × (Nat → Mem)) × Int32} : ∀ (n : Nat) (χ : Mem) (T : Nat → Mem) (v2 : Int32) (v3 : Nat) (v4 : Int32) (v5 : Int32) (hv3 : v3 < gN χ 8 2) (h : f_X9_sumOfCopied_52 n χ T v2 v3 v4 v5 = some rr), JJ p l e rm_X9_sumOfCopied s m args below meth c 6 g ad (MQ below (PoI g ad rr.1.1 rr.1.2 σ rr.2) args s 0 0 (geB g)) χ T σ 0 0 [(0, .ref (ad 5 0)), (2, .int v2), (3, .ref (ad 20 v3)), (4, .int v4), (5, .int v5)] 52 [] := by
  intro n
  induction n with
  | zero => intro  χ T v2 v3 v4 v5 hv3 h; cases h
  | succ n ih =>
  intro  χ T v2 v3 v4 v5 hv3 h
  rw [f_X9_sumOfCopied_52] at h
  refine j_iload C 4 rfl dX9_sumOfCopied_52 ?_
  refine j_iload_n C 1 rfl rfl dX9_sumOfCopied_54 ?_
  refine j_icmp_gt (tgt := 77) C (by decide) dX9_sumOfCopied_55 (fun hc1 => ?_) (fun hc1 => ?_)
  · replace h := (if_pos hc1).symm.trans h
    refine j_aload_n C 0 rfl rfl dX9_sumOfCopied_77 ?_
    refine j_iload C 3 rfl dX9_sumOfCopied_78 ?_
    obtain ⟨q2, hq2, h⟩ := bi_some h
    refine j_callVi (As := [.int v4]) (rest := []) C (c_X9_done hq2) (cwV 1 C.ts (good_V mw_948 mw_950 mw_27 mw_72 mw_951) rfl rfl rfl (by decide +kernel) ⟨Nat.le_of_ble_eq_true rfl, Nat.le_of_ble_eq_true rfl⟩) (fun H hW => CW.rv C.k hW (by decide) cw_5 rfl) rfl rfl (Nat.le_of_ble_eq_true rfl) dX9_sumOfCopied_80 ⟨Nat.zero_le _, Nat.zero_le _⟩ ?_
    obtain rfl := Option.some.inj h
    exact j_iret C rfl rfl (Nat.le_refl _) (Nat.le_refl _) dX9_sumOfCopied_83
  · replace h := (if_neg hc1).symm.trans h
    refine j_iload C 3 rfl dX9_sumOfCopied_58 ?_
    refine j_aload_n C 2 rfl rfl dX9_sumOfCopied_60 ?_
    refine j_getG C in_X6 (by decide) (cw_20 (χ := χ) hv3) rfl 1 (by decide) mw_935 (fun _ h => h) rfl dX9_sumOfCopied_61 ?_
    refine j_iload C 4 rfl dX9_sumOfCopied_64 ?_
    obtain ⟨hg3, h⟩ := gd_some h
    refine j_lald C (by decide) (cw_21 (χ := χ) hv3) hg3 dX9_sumOfCopied_66 ?_
    refine j_l2i C dX9_sumOfCopied_67 ?_
    refine j_iadd C dX9_sumOfCopied_68 ?_
    refine j_istore (L' := [(4, .int (v4 + ((gL χ v3 v5.toNatClampNeg).toInt32))), (0, .ref (ad 5 0)), (2, .int v2), (3, .ref (ad 20 v3)), (5, .int v5)]) C (by decide) rfl dX9_sumOfCopied_69 ?_
    refine j_iinc (v := v5 + (1 : Int32)) (L' := [(5, .int (v5 + (1 : Int32))), (4, .int (v4 + ((gL χ v3 v5.toNatClampNeg).toInt32))), (0, .ref (ad 5 0)), (2, .int v2), (3, .ref (ad 20 v3))]) C 4 rfl rfl (by decide) rfl dX9_sumOfCopied_71 ?_
    refine j_goto (tgt := 52) C (by decide) dX9_sumOfCopied_74 ?_
    exact j_sub [2, 3, 4, 1, 0] rfl (ih χ T v2 v3 (v4 + ((gL χ v3 v5.toNatClampNeg).toInt32)) (v5 + (1 : Int32)) hv3 h)
set_option maxRecDepth 100000 in
set_option maxHeartbeats 4000000 in
theorem t_X9_sumOfCopied_39 {σ : Mem} (C : Cx p s m args meth c cX9_sumOfCopied 6 RX9 (some .int) COM g) {rr : (Mem × (Nat → Mem)) × Int32} (χ : Mem) (T : Nat → Mem) (h : f_X9_sumOfCopied_39 χ T = some rr) : JJ p l e rm_X9_sumOfCopied s m args below meth c 6 g ad (MQ below (PoI g ad rr.1.1 rr.1.2 σ rr.2) args s 0 0 (geB g)) χ T σ 0 0 [(0, .ref (ad 5 0))] 39 [] := by
  rw [f_X9_sumOfCopied_39] at h
  refine j_aload_n C 0 rfl rfl dX9_sumOfCopied_39 ?_
  refine j_bipush (v := 12) C (by decide) dX9_sumOfCopied_40 ?_
  obtain ⟨q1, hq1, h⟩ := bi_some h
  refine j_callVi (As := [.int (12 : Int32)]) (rest := []) C (c_X9_refuse hq1) (cwV 1 C.ts (good_V mw_909 mw_911 mw_23 mw_72 mw_912) rfl rfl rfl (by decide +kernel) ⟨Nat.le_of_ble_eq_true rfl, Nat.le_of_ble_eq_true rfl⟩) (fun H hW => CW.rv C.k hW (by decide) cw_5 rfl) rfl rfl (Nat.le_of_ble_eq_true rfl) dX9_sumOfCopied_42 ⟨Nat.zero_le _, Nat.zero_le _⟩ ?_
  obtain rfl := Option.some.inj h
  exact j_iret C rfl rfl (Nat.le_refl _) (Nat.le_refl _) dX9_sumOfCopied_45
set_option maxRecDepth 100000 in
set_option maxHeartbeats 4000000 in
theorem t_X9_sumOfCopied_0 {σ : Mem} (C : Cx p s m args meth c cX9_sumOfCopied 6 RX9 (some .int) COM g) {rr : (Mem × (Nat → Mem)) × Int32} (χ : Mem) (T : Nat → Mem) (a1 : Nat) (a2 : Int32) (h : f_X9_sumOfCopied_0 χ T a1 a2 = some rr) : JJ p l e rm_X9_sumOfCopied s m args below meth c 6 g ad (MQ below (PoI g ad rr.1.1 rr.1.2 σ rr.2) args s 0 0 (geB g)) χ T σ 0 0 [(0, .ref (ad 5 0)), (1, va_rf (thA ad a1)), (2, .int a2)] 0 [] := by
  rw [f_X9_sumOfCopied_0] at h
  refine j_aload_nR C 1 rfl rfl dX9_sumOfCopied_0 ?_
  refine j_iconst (v := 3) C (by decide) dX9_sumOfCopied_1 ?_
  obtain ⟨q1, hq1, h⟩ := bi_some h
  refine j_callSq (As := [va_rf (thA ad a1), .int (3 : Int32)]) (rest := []) C (c_X9_rowOf hq1) (va_cwS 2 C.ts (good_S mw_972 mw_973 mw_72 mw_974) rfl rfl rfl (by decide +kernel) ⟨Nat.le_of_ble_eq_true rfl, Nat.le_of_ble_eq_true rfl⟩) rfl rfl (Nat.le_of_ble_eq_true rfl) dX9_sumOfCopied_2 ⟨Nat.zero_le _, Nat.zero_le _⟩ ?_
  refine j_astore_nR (L' := [(3, va_rf ((q1).map (ad 20))), (0, .ref (ad 5 0)), (1, va_rf (thA ad a1)), (2, .int a2)]) C rfl (by decide) (by generalize thA ad a1 = r9; cases r9 <;> rfl) dX9_sumOfCopied_5 ?_
  refine j_aload_nR C 0 rfl rfl dX9_sumOfCopied_6 ?_
  cases q1 with
  | none =>
    dsimp only at h
    refine j_ifnonnullN C dX9_sumOfCopied_7 ?_
    refine j_aload_n C 1 rfl rfl dX9_sumOfCopied_10 ?_
    refine j_aload_nR C 2 rfl rfl dX9_sumOfCopied_11 ?_
    obtain ⟨q4, hq4, h⟩ := bi_some h
    refine j_callVi (As := [va_rf (thA ad a1)]) (rest := []) C (c_X9_refuseRow hq4) (cwV 1 C.ts (good_V mw_975 mw_977 mw_30 mw_72 mw_978) rfl rfl rfl (by decide +kernel) ⟨Nat.le_of_ble_eq_true rfl, Nat.le_of_ble_eq_true rfl⟩) (fun H hW => CW.rv C.k hW (by decide) cw_5 rfl) rfl rfl (Nat.le_of_ble_eq_true rfl) dX9_sumOfCopied_12 ⟨Nat.zero_le _, Nat.zero_le _⟩ ?_
    obtain rfl := Option.some.inj h
    exact j_iret C rfl rfl (Nat.le_refl _) (Nat.le_refl _) dX9_sumOfCopied_15
  | some i2 =>
    dsimp only at h
    refine j_ifnonnullS (tgt := 16) C (by decide) dX9_sumOfCopied_7 ?_
    obtain ⟨hg3, h⟩ := gd_some h
    refine j_iload_n C 3 rfl rfl dX9_sumOfCopied_16 ?_
    refine j_if_lt (tgt := 39) C (by decide) dX9_sumOfCopied_17 (fun hc5 => ?_) (fun hc5 => ?_)
    · replace h := (if_pos hc5).symm.trans h
      exact j_sub [1] rfl (t_X9_sumOfCopied_39 C χ T h)
    · replace h := (if_neg hc5).symm.trans h
      refine j_iconst (v := 1) C (by decide) dX9_sumOfCopied_20 ?_
      refine j_iload_n C 3 rfl rfl dX9_sumOfCopied_21 ?_
      refine j_iadd C dX9_sumOfCopied_22 ?_
      refine j_aload_n C 0 rfl rfl dX9_sumOfCopied_23 ?_
      refine j_getG C in_X6 (by decide) (cw_20 (χ := χ) hg3) rfl 1 (by decide) mw_935 (fun _ h => h) rfl dX9_sumOfCopied_24 ?_
      refine j_lalen C (by decide) (cw_21 (χ := χ) hg3) dX9_sumOfCopied_27 ?_
      refine j_icmp_gt (tgt := 39) C (by decide) dX9_sumOfCopied_28 (fun hc6 => ?_) (fun hc6 => ?_)
      · replace h := (if_pos hc6).symm.trans h
        exact j_sub [1] rfl (t_X9_sumOfCopied_39 C χ T h)
      · replace h := (if_neg hc6).symm.trans h
        refine j_iload_n C 3 rfl rfl dX9_sumOfCopied_31 ?_
        refine j_iload_n C 3 rfl rfl dX9_sumOfCopied_32 ?_
        refine j_iadd C dX9_sumOfCopied_33 ?_
        refine j_bipush (v := 9) C (by decide) dX9_sumOfCopied_34 ?_
        refine j_icmp_le (tgt := 46) C (by decide) dX9_sumOfCopied_36 (fun hc7 => ?_) (fun hc7 => ?_)
        · replace h := (if_pos hc7).symm.trans h
          refine j_iconst (v := 0) C (by decide) dX9_sumOfCopied_46 ?_
          refine j_istore (L' := [(4, .int (0 : Int32)), (3, .ref (ad 20 i2)), (0, .ref (ad 5 0)), (1, va_rf (thA ad a1)), (2, .int a2)]) C (by decide) (by generalize thA ad a1 = r9; cases r9 <;> rfl) dX9_sumOfCopied_47 ?_
          refine j_iconst (v := 1) C (by decide) dX9_sumOfCopied_49 ?_
          refine j_istore (L' := [(5, .int (1 : Int32)), (4, .int (0 : Int32)), (3, .ref (ad 20 i2)), (0, .ref (ad 5 0)), (1, va_rf (thA ad a1)), (2, .int a2)]) C (by decide) (by generalize thA ad a1 = r9; cases r9 <;> rfl) dX9_sumOfCopied_50 ?_
          exact j_sub [3, 5, 2, 1, 0] rfl (t_X9_sumOfCopied_52 C FU χ T a2 i2 (0 : Int32) (1 : Int32) hg3 h)
        · replace h := (if_neg hc7).symm.trans h
          exact j_sub [1] rfl (t_X9_sumOfCopied_39 C χ T h)
set_option maxRecDepth 100000 in
set_option maxHeartbeats 4000000 in
theorem c_X9_sumOfCopied {l : Launch} {g : Gc} {ad : Nat → Nat → Nat} {χ : Mem} {T : Nat → Mem} {σ : Mem} {a1 : Nat} {a2 : Int32} {rr : (Mem × (Nat → Mem)) × Int32} (h : f_X9_sumOfCopied χ T a1 a2 = some rr) : Met l yX9_sumOfCopied (WS yX9_sumOfCopied cX9_sumOfCopied 6 (some .int)) rm_X9_sumOfCopied (PreW g ad χ T σ [.ref (ad 5 0), va_rf (thA ad a1), .int a2]) (PoI g ad rr.1.1 rr.1.2 σ rr.2) 0 0 (geB g) := by
  refine j_metW (by decide) (by generalize thA ad a1 = r; cases r <;> exact Nat.le_of_ble_eq_true rfl) fun p e s m below meth c C hname => ?_
  rw [f_X9_sumOfCopied] at h
  exact j_sub [0, 1, 2] (by generalize thA ad a1 = r; cases r <;> rfl) (t_X9_sumOfCopied_0 C χ T a1 a2 h)
set_option maxRecDepth 100000 in
set_option maxHeartbeats 4000000 in
theorem t_X9_priceAsSpare_39 {σ : Mem} (C : Cx p s m args meth c cX9_priceAsSpare 3 RX9 (some .int) COM g) {rr : (Mem × (Nat → Mem)) × Int32} (χ : Mem) (T : Nat → Mem) (h : f_X9_priceAsSpare_39 χ T = some rr) : JJ p l e rm_X9_priceAsSpare s m args below meth c 3 g ad (MQ below (PoI g ad rr.1.1 rr.1.2 σ rr.2) args s 0 0 (geB g)) χ T σ 0 0 [(0, .ref (ad 5 0))] 39 [] := by
  rw [f_X9_priceAsSpare_39] at h
  refine j_aload_n C 0 rfl rfl dX9_priceAsSpare_39 ?_
  refine j_bipush (v := 14) C (by decide) dX9_priceAsSpare_40 ?_
  obtain ⟨q1, hq1, h⟩ := bi_some h
  refine j_callVi (As := [.int (14 : Int32)]) (rest := []) C (c_X9_refuse hq1) (cwV 1 C.ts (good_V mw_909 mw_911 mw_23 mw_72 mw_912) rfl rfl rfl (by decide +kernel) ⟨Nat.le_of_ble_eq_true rfl, Nat.le_of_ble_eq_true rfl⟩) (fun H hW => CW.rv C.k hW (by decide) cw_5 rfl) rfl rfl (Nat.le_of_ble_eq_true rfl) dX9_priceAsSpare_42 ⟨Nat.zero_le _, Nat.zero_le _⟩ ?_
  obtain rfl := Option.some.inj h
  exact j_iret C rfl rfl (Nat.le_refl _) (Nat.le_refl _) dX9_priceAsSpare_45
set_option maxRecDepth 100000 in
set_option maxHeartbeats 4000000 in
theorem t_X9_priceAsSpare_0 {σ : Mem} (C : Cx p s m args meth c cX9_priceAsSpare 3 RX9 (some .int) COM g) {rr : (Mem × (Nat → Mem)) × Int32} (χ : Mem) (T : Nat → Mem) (a1 : Nat) (h : f_X9_priceAsSpare_0 χ T a1 = some rr) : JJ p l e rm_X9_priceAsSpare s m args below meth c 3 g ad (MQ below (PoI g ad rr.1.1 rr.1.2 σ rr.2) args s 0 0 (geB g)) χ T σ 0 0 [(0, .ref (ad 5 0)), (1, va_rf (thA ad a1))] 0 [] := by
  rw [f_X9_priceAsSpare_0] at h
  refine j_aload_nR C 1 rfl rfl dX9_priceAsSpare_0 ?_
  refine j_ifnonnullT (tgt := 10) C (by decide) dX9_priceAsSpare_1 (fun hc1 => ?_) (fun hc1 => ?_)
  · replace h := (if_pos hc1).symm.trans h
    refine j_aload_n C 0 rfl rfl dX9_priceAsSpare_4 ?_
    refine j_iconst (v := 0) C (by decide) dX9_priceAsSpare_5 ?_
    obtain ⟨q2, hq2, h⟩ := bi_some h
    refine j_callVi (As := [.int (0 : Int32)]) (rest := []) C (c_X9_done hq2) (cwV 1 C.ts (good_V mw_948 mw_950 mw_27 mw_72 mw_951) rfl rfl rfl (by decide +kernel) ⟨Nat.le_of_ble_eq_true rfl, Nat.le_of_ble_eq_true rfl⟩) (fun H hW => CW.rv C.k hW (by decide) cw_5 rfl) rfl rfl (Nat.le_of_ble_eq_true rfl) dX9_priceAsSpare_6 ⟨Nat.zero_le _, Nat.zero_le _⟩ ?_
    obtain rfl := Option.some.inj h
    exact j_iret C rfl rfl (Nat.le_refl _) (Nat.le_refl _) dX9_priceAsSpare_9
  · replace h := (if_neg hc1).symm.trans h
    refine j_aload_nR C 1 rfl rfl dX9_priceAsSpare_10 ?_
    obtain ⟨hg3, h⟩ := gd_some h
    refine j_instRod C (TVb_ok hg3) mw_947 dX9_priceAsSpare_11 ?_
    refine j_if_eq (tgt := 39) C (by decide) dX9_priceAsSpare_14 (fun hc4 => ?_) (fun hc4 => ?_)
    · replace h := (if_pos hc4).symm.trans h
      exact j_sub [0] rfl (t_X9_priceAsSpare_39 C χ T h)
    · replace h := (if_neg hc4).symm.trans h
      refine j_aload_nR C 1 rfl rfl dX9_priceAsSpare_17 ?_
      obtain ⟨hg5, h⟩ := gd_some h
      refine j_castRod C (TVb_ok hg3) hg5 mw_947 dX9_priceAsSpare_18 ?_
      refine j_astore_n (L' := [(2, .ref (ad 19 (a1 / 2))), (0, .ref (ad 5 0)), (1, va_rf (thA ad a1))]) C rfl (by decide) (by generalize thA ad a1 = r9; cases r9 <;> rfl) dX9_priceAsSpare_21 ?_
      refine j_aload_n C 0 rfl rfl dX9_priceAsSpare_22 ?_
      refine j_iconst (v := 3) C (by decide) dX9_priceAsSpare_23 ?_
      obtain ⟨q6, hq6, h⟩ := bi_some h
      refine j_callVi (As := [.int (3 : Int32)]) (rest := []) C (c_X5_isOf ((TVb_ok hg3).1 hg5) hq6) (cwV 1 C.ts (good_V mw_967 mw_689 mw_690 mw_82 mw_691) rfl rfl rfl (by decide +kernel) ⟨Nat.le_of_ble_eq_true rfl, Nat.le_of_ble_eq_true rfl⟩) (fun H hW => CW.rv C.k hW (by decide) (cw_19 (χ := χ) ((TVb_ok hg3).1 hg5)) rfl) rfl rfl (Nat.le_of_ble_eq_true rfl) dX9_priceAsSpare_24 ⟨Nat.zero_le _, Nat.zero_le _⟩ ?_
      refine j_if_eq (tgt := 39) C (by decide) dX9_priceAsSpare_27 (fun hc7 => ?_) (fun hc7 => ?_)
      · replace h := (if_pos hc7).symm.trans h
        exact j_sub [1] rfl (t_X9_priceAsSpare_39 C χ T h)
      · replace h := (if_neg hc7).symm.trans h
        refine j_aload_n C 1 rfl rfl dX9_priceAsSpare_30 ?_
        refine j_aload_n C 0 rfl rfl dX9_priceAsSpare_31 ?_
        refine j_getG C in_X5 (by decide) (cw_19 (χ := χ) ((TVb_ok hg3).1 hg5)) rfl 4 (by decide) mw_659 (fun _ h => h) rfl dX9_priceAsSpare_32 ?_
        obtain ⟨q8, hq8, h⟩ := bi_some h
        refine j_callVi (As := [.int (gI χ 8 (a1 / 2))]) (rest := []) C (c_X9_done hq8) (cwV 1 C.ts (good_V mw_948 mw_950 mw_27 mw_72 mw_951) rfl rfl rfl (by decide +kernel) ⟨Nat.le_of_ble_eq_true rfl, Nat.le_of_ble_eq_true rfl⟩) (fun H hW => CW.rv C.k hW (by decide) cw_5 rfl) rfl rfl (Nat.le_of_ble_eq_true rfl) dX9_priceAsSpare_35 ⟨Nat.zero_le _, Nat.zero_le _⟩ ?_
        obtain rfl := Option.some.inj h
        exact j_iret C rfl rfl (Nat.le_refl _) (Nat.le_refl _) dX9_priceAsSpare_38
set_option maxRecDepth 100000 in
set_option maxHeartbeats 4000000 in
theorem c_X9_priceAsSpare {l : Launch} {g : Gc} {ad : Nat → Nat → Nat} {χ : Mem} {T : Nat → Mem} {σ : Mem} {a1 : Nat} {rr : (Mem × (Nat → Mem)) × Int32} (h : f_X9_priceAsSpare χ T a1 = some rr) : Met l yX9_priceAsSpare (WS yX9_priceAsSpare cX9_priceAsSpare 3 (some .int)) rm_X9_priceAsSpare (PreW g ad χ T σ [.ref (ad 5 0), va_rf (thA ad a1)]) (PoI g ad rr.1.1 rr.1.2 σ rr.2) 0 0 (geB g) := by
  refine j_metW (by decide) (by generalize thA ad a1 = r; cases r <;> exact Nat.le_of_ble_eq_true rfl) fun p e s m below meth c C hname => ?_
  rw [f_X9_priceAsSpare] at h
  exact j_sub [0, 1] (by generalize thA ad a1 = r; cases r <;> rfl) (t_X9_priceAsSpare_0 C χ T a1 h)
set_option maxRecDepth 100000 in
set_option maxHeartbeats 4000000 in
theorem t_X9_motionRow_25 {σ : Mem} {χ0 : Mem} {ad0 : Nat → Nat → Nat} (C : Cx p s m args meth c cX9_motionRow 4 RX9 (some (.object "RodBench$Row")) COM g) (hx : Ext χ0 ad0 ad) {rr : (Mem × (Nat → Mem)) × Option Nat} : ∀ (n : Nat) (cl sl : Nat) (hcs : cl + (n * 0 + 0) ≤ 2 ∧ sl + (n * 0 + 0) ≤ 17) (χ : Mem) (T : Nat → Mem) (v1 : Int32) (v2 : Nat) (v3 : Int32) (hv2 : v2 < gN χ 8 2) (h : f_X9_motionRow_25 n χ T v1 v2 v3 = some rr), JJ p l e rm_X9_motionRow s m args below meth c 4 g ad (MQ below (PoER g χ0 ad0 rr.1.1 rr.1.2 σ (fun ad9 => (rr.2).map (ad9 20))) args s 2 17 (geB g)) χ T σ cl sl [(0, .ref (ad 5 0)), (1, .int v1), (2, .ref (ad 20 v2)), (3, .int v3)] 25 [] := by
  intro n
  induction n with
  | zero => intro cl sl hcs χ T v1 v2 v3 hv2 h; cases h
  | succ n ih =>
  intro cl sl hcs χ T v1 v2 v3 hv2 h
  rw [f_X9_motionRow_25] at h
  refine j_iload_n C 3 rfl rfl dX9_motionRow_25 ?_
  refine j_aload_n C 2 rfl rfl dX9_motionRow_26 ?_
  refine j_getG C in_X6 (by decide) (cw_20 (χ := χ) hv2) rfl 1 (by decide) mw_935 (fun _ h => h) rfl dX9_motionRow_27 ?_
  refine j_lalen C (by decide) (cw_21 (χ := χ) hv2) dX9_motionRow_30 ?_
  refine j_icmp_ge (tgt := 75) C (by decide) dX9_motionRow_31 (fun hc1 => ?_) (fun hc1 => ?_)
  · replace h := (if_pos hc1).symm.trans h
    refine j_aload_n C 2 rfl rfl dX9_motionRow_75 ?_
    obtain rfl := Option.some.inj h
    exact j_aretE (f := (fun ad9 => (some v2).map (ad9 20))) C hx rfl (Or.inl ⟨_, rfl⟩) (by omega) (by omega) dX9_motionRow_76
  · replace h := (if_neg hc1).symm.trans h
    refine j_aload_n C 2 rfl rfl dX9_motionRow_34 ?_
    refine j_getG C in_X6 (by decide) (cw_20 (χ := χ) hv2) rfl 1 (by decide) mw_935 (fun _ h => h) rfl dX9_motionRow_35 ?_
    refine j_iload_n C 3 rfl rfl dX9_motionRow_38 ?_
    refine j_aload_n C 0 rfl rfl dX9_motionRow_39 ?_
    refine j_getG C in_X9 (by decide) cw_5 rfl 1 (by decide) mw_256 (fun _ h => h) rfl dX9_motionRow_40 ?_
    refine j_iload_n C 1 rfl rfl dX9_motionRow_43 ?_
    refine j_aload_n C 0 rfl rfl dX9_motionRow_44 ?_
    refine j_getG C in_X9 (by decide) cw_5 rfl 0 (by decide) mw_255 (fun _ h => h) rfl dX9_motionRow_45 ?_
    refine j_getG C in_X2 (by decide) cw_1 rfl 0 (by decide) mw_127 (fun _ h => h) rfl dX9_motionRow_48 ?_
    refine j_iload_n C 3 rfl rfl dX9_motionRow_51 ?_
    refine j_iconst (v := 2) C (by decide) dX9_motionRow_52 ?_
    refine j_idiv C (by decide) dX9_motionRow_53 ?_
    obtain ⟨hg2, h⟩ := gd_some h
    refine j_wt (fun wt3 => ?_)
    refine j_lgetK (ek := 18) C (by decide) (by decide) hg2 mw_918 ⟨Nat.le_of_ble_eq_true rfl, Nat.le_of_ble_eq_true rfl⟩ (Nat.le_of_ble_eq_true rfl) dX9_motionRow_54 ⟨(by show _ ≤ 2; omega), (by show _ ≤ 17; omega)⟩ ?_
    refine j_castS (q := (RX4, TX4, 6)) C mw_941 (by decide) (cw_18 (χ := χ) (wt_18 wt3 (by decide) (by decide) hg2)) rfl dX9_motionRow_59 ?_
    refine j_iload_n C 3 rfl rfl dX9_motionRow_62 ?_
    refine j_iconst (v := 2) C (by decide) dX9_motionRow_63 ?_
    refine j_irem C (by decide) dX9_motionRow_64 ?_
    obtain ⟨q4, hq4, h⟩ := bi_some h
    refine j_callVl (As := [.int v1, .ref (ad 18 (gN χ 0 (v3 / (2 : Int32)).toNatClampNeg)), .int (v3 - v3 / (2 : Int32) * (2 : Int32))]) (rest := [.int v3, .ref (ad 21 v2)]) C (c_X0_motionNumber (wt_18 wt3 (by decide) (by decide) hg2) hq4) (cwV 3 C.ts (good_V mw_942 mw_769 mw_770 mw_68 mw_771) rfl rfl rfl (by decide +kernel) ⟨Nat.le_of_ble_eq_true rfl, Nat.le_of_ble_eq_true rfl⟩) (fun H hW => CW.rv C.k hW (by decide) cw_2 rfl) rfl rfl (Nat.le_of_ble_eq_true rfl) dX9_motionRow_65 ⟨(by show _ ≤ 2; omega), (by show _ ≤ 17; omega)⟩ ?_
    obtain ⟨hg5, h⟩ := gd_some h
    refine j_lastP C (by decide) (po_rownum (χ := χ) hv2 v3.toNatClampNeg q4) hg5 dX9_motionRow_68 ?_
    refine j_iinc (v := v3 + (1 : Int32)) (L' := [(3, .int (v3 + (1 : Int32))), (0, .ref (ad 5 0)), (1, .int v1), (2, .ref (ad 20 v2))]) C 3 rfl rfl (by decide) rfl dX9_motionRow_69 ?_
    refine j_goto (tgt := 25) C (by decide) dX9_motionRow_72 ?_
    exact j_sub [1, 2, 3, 0] rfl (ih _ _ ⟨by omega, by omega⟩ (wL χ v2 v3.toNatClampNeg q4) T v1 v2 (v3 + (1 : Int32)) hv2 h)
set_option maxRecDepth 100000 in
set_option maxHeartbeats 4000000 in
theorem t_X9_motionRow_0 {σ : Mem} (C : Cx p s m args meth c cX9_motionRow 4 RX9 (some (.object "RodBench$Row")) COM g) {rr : (Mem × (Nat → Mem)) × Option Nat} (cl sl : Nat) (hcs : cl + (2) ≤ 2 ∧ sl + (17) ≤ 17) (χ : Mem) (T : Nat → Mem) (a1 : Int32) (h : f_X9_motionRow_0 χ T a1 = some rr) : JJ p l e rm_X9_motionRow s m args below meth c 4 g ad (MQ below (PoER g χ ad rr.1.1 rr.1.2 σ (fun ad9 => (rr.2).map (ad9 20))) args s 2 17 (geB g)) χ T σ cl sl [(0, .ref (ad 5 0)), (1, .int a1)] 0 [] := by
  rw [f_X9_motionRow_0] at h
  refine j_newX C 3 in_X6 tyX6_ok mw_923 mw_924 mw_83 (show vwCl[7]? = some (RX6, TX6, 2) from rfl) rfl fs_X6 (by show _ ≤ 2; omega) (by show _ ≤ 17; omega) dX9_motionRow_0 (fun ad2 hx1 => ?_)
  refine j_re (L' := [(0, .ref (ad2 5 0)), (1, .int a1)]) (st' := [.ref (ad2 22 0)]) (by rw [hx1.lo (k := 5) (i := 0) (by decide)]) rfl ?_
  refine j_dup C rfl dX9_motionRow_3 ?_
  refine j_iconst (v := 2) C (by decide) dX9_motionRow_4 ?_
  refine j_iconst (v := 2) C (by decide) dX9_motionRow_5 ?_
  refine j_aload_n C 0 rfl rfl dX9_motionRow_6 ?_
  refine j_getG C in_X9 (by decide) cw_5 rfl 0 (by decide) mw_255 (fun _ h => h) rfl dX9_motionRow_7 ?_
  refine j_getG C in_X2 (by decide) cw_1 rfl 0 (by decide) mw_127 (fun _ h => h) rfl dX9_motionRow_10 ?_
  refine j_lsize C (by decide) mw_926 ⟨Nat.le_of_ble_eq_true rfl, Nat.le_of_ble_eq_true rfl⟩ (Nat.le_of_ble_eq_true rfl) dX9_motionRow_13 ⟨(by show _ ≤ 2; omega), (by show _ ≤ 17; omega)⟩ ?_
  refine j_imul C dX9_motionRow_18 ?_
  obtain ⟨hg3, h⟩ := gd_some h
  refine j_initRow (N := gN χ 8 2) C rfl rfl hg3 (cwI 2 C.ts (good_WS mw_929) rfl rfl rfl (C.ts _ mw_83) (C.ts _ mw_927) (C.ts _ mw_928) rfl (by decide +kernel) ⟨Nat.le_of_ble_eq_true rfl, Nat.le_of_ble_eq_true rfl⟩) (Nat.le_of_ble_eq_true rfl) dX9_motionRow_19 ⟨(by show _ ≤ 2; omega), (by show _ ≤ 17; omega)⟩ (fun ad5 hx4 he6 => ?_)
  refine j_re (L' := [(0, .ref (ad5 5 0)), (1, .int a1)]) (st' := [.ref (ad5 20 (gN χ 8 2))]) (by rw [hx4.lo (k := 5) (i := 0) (by decide)]) (by rw [he6]) ?_
  refine j_astore_n (L' := [(2, .ref (ad5 20 (gN χ 8 2))), (0, .ref (ad5 5 0)), (1, .int a1)]) C rfl (by decide) rfl dX9_motionRow_22 ?_
  refine j_iconst (v := 0) C (by decide) dX9_motionRow_23 ?_
  refine j_istore_n (L' := [(3, .int (0 : Int32)), (2, .ref (ad5 20 (gN χ 8 2))), (0, .ref (ad5 5 0)), (1, .int a1)]) C rfl (by decide) rfl dX9_motionRow_24 ?_
  exact j_sub [2, 3, 1, 0] rfl (t_X9_motionRow_25 C (Ext.trN hx1 hx4) 16 _ _ ⟨by omega, by omega⟩ (mkRow (wN χ 8 3 3) (2 : Int32) ((2 : Int32) * (gI (wN χ 8 3 3) 14 0)).toNatClampNeg) T a1 (gN χ 8 2) (0 : Int32) (mkRow_new (χ := (wN χ 8 3 3))) h)
set_option maxRecDepth 100000 in
set_option maxHeartbeats 4000000 in
theorem c_X9_motionRow {l : Launch} {g : Gc} {ad : Nat → Nat → Nat} {χ : Mem} {T : Nat → Mem} {σ : Mem} {a1 : Int32} {rr : (Mem × (Nat → Mem)) × Option Nat} (h : f_X9_motionRow χ T a1 = some rr) : Met l yX9_motionRow (WS yX9_motionRow cX9_motionRow 4 (some (.object "RodBench$Row"))) rm_X9_motionRow (PreW g ad χ T σ [.ref (ad 5 0), .int a1]) (PoER g χ ad rr.1.1 rr.1.2 σ (fun ad9 => (rr.2).map (ad9 20))) 2 17 (geB g) := by
  refine j_metW (by decide) (Nat.le_of_ble_eq_true rfl) fun p e s m below meth c C hname => ?_
  rw [f_X9_motionRow] at h
  exact j_sub [0, 1] rfl (t_X9_motionRow_0 C 0 0 ⟨Nat.le_of_ble_eq_true rfl, Nat.le_of_ble_eq_true rfl⟩ χ T a1 h)
set_option maxRecDepth 100000 in
set_option maxHeartbeats 4000000 in
theorem t_X9_rodRow_23 {σ : Mem} {χ0 : Mem} {ad0 : Nat → Nat → Nat} (C : Cx p s m args meth c cX9_rodRow 5 RX9 (some (.object "RodBench$Row")) COM g) (hx : Ext χ0 ad0 ad) {rr : (Mem × (Nat → Mem)) × Option Nat} : ∀ (n : Nat) (cl sl : Nat) (hcs : cl + (n * 0 + 0) ≤ 2 ∧ sl + (n * 0 + 0) ≤ 17) (χ : Mem) (T : Nat → Mem) (v1 : Int32) (v2 : Nat) (v3 : Int32) (hv2 : v2 < gN χ 8 2) (h : f_X9_rodRow_23 n χ T v1 v2 v3 = some rr), JJ p l e rm_X9_rodRow s m args below meth c 5 g ad (MQ below (PoER g χ0 ad0 rr.1.1 rr.1.2 σ (fun ad9 => (rr.2).map (ad9 20))) args s 2 17 (geB g)) χ T σ cl sl [(0, .ref (ad 5 0)), (1, .int v1), (2, .ref (ad 20 v2)), (3, .int v3)] 23 [] := by
  intro n
  induction n with
  | zero => intro cl sl hcs χ T v1 v2 v3 hv2 h; cases h
  | succ n ih =>
  intro cl sl hcs χ T v1 v2 v3 hv2 h
  rw [f_X9_rodRow_23] at h
  refine j_iload_n C 3 rfl rfl dX9_rodRow_23 ?_
  refine j_aload_n C 2 rfl rfl dX9_rodRow_24 ?_
  refine j_getG C in_X6 (by decide) (cw_20 (χ := χ) hv2) rfl 1 (by decide) mw_935 (fun _ h => h) rfl dX9_rodRow_25 ?_
  refine j_lalen C (by decide) (cw_21 (χ := χ) hv2) dX9_rodRow_28 ?_
  refine j_icmp_ge (tgt := 89) C (by decide) dX9_rodRow_29 (fun hc1 => ?_) (fun hc1 => ?_)
  · replace h := (if_pos hc1).symm.trans h
    refine j_aload_n C 2 rfl rfl dX9_rodRow_89 ?_
    obtain rfl := Option.some.inj h
    exact j_aretE (f := (fun ad9 => (some v2).map (ad9 20))) C hx rfl (Or.inl ⟨_, rfl⟩) (by omega) (by omega) dX9_rodRow_90
  · replace h := (if_neg hc1).symm.trans h
    refine j_aload_n C 0 rfl rfl dX9_rodRow_32 ?_
    refine j_getG C in_X9 (by decide) cw_5 rfl 0 (by decide) mw_255 (fun _ h => h) rfl dX9_rodRow_33 ?_
    refine j_getG C in_X2 (by decide) cw_1 rfl 1 (by decide) mw_131 (fun _ h => h) rfl dX9_rodRow_36 ?_
    refine j_iload_n C 3 rfl rfl dX9_rodRow_39 ?_
    obtain ⟨hg2, h⟩ := gd_some h
    refine j_wt (fun wt3 => ?_)
    refine j_lgetK (ek := 19) C (by decide) (by decide) hg2 mw_918 ⟨Nat.le_of_ble_eq_true rfl, Nat.le_of_ble_eq_true rfl⟩ (Nat.le_of_ble_eq_true rfl) dX9_rodRow_40 ⟨(by show _ ≤ 2; omega), (by show _ ≤ 17; omega)⟩ ?_
    refine j_castS (q := (RX5, TX5, 6)) C mw_947 (by decide) (cw_19 (χ := χ) (wt_19 wt3 (by decide) (by decide) hg2)) rfl dX9_rodRow_45 ?_
    refine j_astore (L' := [(4, .ref (ad 19 (gN χ 1 v3.toNatClampNeg))), (0, .ref (ad 5 0)), (1, .int v1), (2, .ref (ad 20 v2)), (3, .int v3)]) C (by decide) rfl dX9_rodRow_48 ?_
    refine j_aload_n C 3 rfl rfl dX9_rodRow_50 ?_
    refine j_getG C in_X6 (by decide) (cw_20 (χ := χ) hv2) rfl 1 (by decide) mw_935 (fun _ h => h) rfl dX9_rodRow_51 ?_
    refine j_iload_n C 4 rfl rfl dX9_rodRow_54 ?_
    refine j_iload_n C 2 rfl rfl dX9_rodRow_55 ?_
    refine j_iconst (v := 3) C (by decide) dX9_rodRow_56 ?_
    refine j_icmp_ne (tgt := 69) C (by decide) dX9_rodRow_57 (fun hc4 => ?_) (fun hc4 => ?_)
    · replace h := (if_neg hc4).symm.trans h
      refine j_aload C 0 rfl dX9_rodRow_69 ?_
      refine j_getG C in_X5 (by decide) (cw_19 (χ := χ) (wt_19 wt3 (by decide) (by decide) hg2)) rfl 5 (by decide) mw_666 (fun _ h => h) rfl dX9_rodRow_71 ?_
      refine j_if_eq (tgt := 81) C (by decide) dX9_rodRow_74 (fun hc5 => ?_) (fun hc5 => ?_)
      · replace h := (if_pos hc5).symm.trans h
        refine j_lconst (v := 0) C (by decide) dX9_rodRow_81 ?_
        obtain ⟨hg6, h⟩ := gd_some h
        refine j_lastP C (by decide) (po_rownum (χ := χ) hv2 v3.toNatClampNeg (0 : Int64)) hg6 dX9_rodRow_82 ?_
        refine j_iinc (v := v3 + (1 : Int32)) (L' := [(3, .int (v3 + (1 : Int32))), (4, .ref (ad 19 (gN χ 1 v3.toNatClampNeg))), (0, .ref (ad 5 0)), (1, .int v1), (2, .ref (ad 20 v2))]) C 4 rfl rfl (by decide) rfl dX9_rodRow_83 ?_
        refine j_goto (tgt := 23) C (by decide) dX9_rodRow_86 ?_
        exact j_sub [2, 3, 4, 0] rfl (ih _ _ ⟨by omega, by omega⟩ (wL χ v2 v3.toNatClampNeg (0 : Int64)) T v1 v2 (v3 + (1 : Int32)) hv2 h)
      · replace h := (if_neg hc5).symm.trans h
        refine j_lconst (v := 1) C (by decide) dX9_rodRow_77 ?_
        refine j_goto (tgt := 82) C (by decide) dX9_rodRow_78 ?_
        obtain ⟨hg7, h⟩ := gd_some h
        refine j_lastP C (by decide) (po_rownum (χ := χ) hv2 v3.toNatClampNeg (1 : Int64)) hg7 dX9_rodRow_82 ?_
        refine j_iinc (v := v3 + (1 : Int32)) (L' := [(3, .int (v3 + (1 : Int32))), (4, .ref (ad 19 (gN χ 1 v3.toNatClampNeg))), (0, .ref (ad 5 0)), (1, .int v1), (2, .ref (ad 20 v2))]) C 4 rfl rfl (by decide) rfl dX9_rodRow_83 ?_
        refine j_goto (tgt := 23) C (by decide) dX9_rodRow_86 ?_
        exact j_sub [2, 3, 4, 0] rfl (ih _ _ ⟨by omega, by omega⟩ (wL χ v2 v3.toNatClampNeg (1 : Int64)) T v1 v2 (v3 + (1 : Int32)) hv2 h)
    · replace h := (if_pos hc4).symm.trans h
      refine j_aload C 0 rfl dX9_rodRow_60 ?_
      refine j_getG C in_X5 (by decide) (cw_19 (χ := χ) (wt_19 wt3 (by decide) (by decide) hg2)) rfl 4 (by decide) mw_659 (fun _ h => h) rfl dX9_rodRow_62 ?_
      refine j_i2l C dX9_rodRow_65 ?_
      refine j_goto (tgt := 82) C (by decide) dX9_rodRow_66 ?_
      obtain ⟨hg8, h⟩ := gd_some h
      refine j_lastP C (by decide) (po_rownum (χ := χ) hv2 v3.toNatClampNeg ((gI χ 8 (gN χ 1 v3.toNatClampNeg)).toInt64)) hg8 dX9_rodRow_82 ?_
      refine j_iinc (v := v3 + (1 : Int32)) (L' := [(3, .int (v3 + (1 : Int32))), (4, .ref (ad 19 (gN χ 1 v3.toNatClampNeg))), (0, .ref (ad 5 0)), (1, .int v1), (2, .ref (ad 20 v2))]) C 4 rfl rfl (by decide) rfl dX9_rodRow_83 ?_
      refine j_goto (tgt := 23) C (by decide) dX9_rodRow_86 ?_
      exact j_sub [2, 3, 4, 0] rfl (ih _ _ ⟨by omega, by omega⟩ (wL χ v2 v3.toNatClampNeg ((gI χ 8 (gN χ 1 v3.toNatClampNeg)).toInt64)) T v1 v2 (v3 + (1 : Int32)) hv2 h)
set_option maxRecDepth 100000 in
set_option maxHeartbeats 4000000 in
theorem t_X9_rodRow_0 {σ : Mem} (C : Cx p s m args meth c cX9_rodRow 5 RX9 (some (.object "RodBench$Row")) COM g) {rr : (Mem × (Nat → Mem)) × Option Nat} (cl sl : Nat) (hcs : cl + (2) ≤ 2 ∧ sl + (17) ≤ 17) (χ : Mem) (T : Nat → Mem) (a1 : Int32) (h : f_X9_rodRow_0 χ T a1 = some rr) : JJ p l e rm_X9_rodRow s m args below meth c 5 g ad (MQ below (PoER g χ ad rr.1.1 rr.1.2 σ (fun ad9 => (rr.2).map (ad9 20))) args s 2 17 (geB g)) χ T σ cl sl [(0, .ref (ad 5 0)), (1, .int a1)] 0 [] := by
  rw [f_X9_rodRow_0] at h
  refine j_newX C 3 in_X6 tyX6_ok mw_923 mw_924 mw_83 (show vwCl[7]? = some (RX6, TX6, 2) from rfl) rfl fs_X6 (by show _ ≤ 2; omega) (by show _ ≤ 17; omega) dX9_rodRow_0 (fun ad2 hx1 => ?_)
  refine j_re (L' := [(0, .ref (ad2 5 0)), (1, .int a1)]) (st' := [.ref (ad2 22 0)]) (by rw [hx1.lo (k := 5) (i := 0) (by decide)]) rfl ?_
  refine j_dup C rfl dX9_rodRow_3 ?_
  refine j_iload_n C 1 rfl rfl dX9_rodRow_4 ?_
  refine j_aload_n C 0 rfl rfl dX9_rodRow_5 ?_
  refine j_getG C in_X9 (by decide) cw_5 rfl 0 (by decide) mw_255 (fun _ h => h) rfl dX9_rodRow_6 ?_
  refine j_getG C in_X2 (by decide) cw_1 rfl 1 (by decide) mw_131 (fun _ h => h) rfl dX9_rodRow_9 ?_
  refine j_lsize C (by decide) mw_926 ⟨Nat.le_of_ble_eq_true rfl, Nat.le_of_ble_eq_true rfl⟩ (Nat.le_of_ble_eq_true rfl) dX9_rodRow_12 ⟨(by show _ ≤ 2; omega), (by show _ ≤ 17; omega)⟩ ?_
  obtain ⟨hg3, h⟩ := gd_some h
  refine j_initRow (N := gN χ 8 2) C rfl rfl hg3 (cwI 2 C.ts (good_WS mw_929) rfl rfl rfl (C.ts _ mw_83) (C.ts _ mw_927) (C.ts _ mw_928) rfl (by decide +kernel) ⟨Nat.le_of_ble_eq_true rfl, Nat.le_of_ble_eq_true rfl⟩) (Nat.le_of_ble_eq_true rfl) dX9_rodRow_17 ⟨(by show _ ≤ 2; omega), (by show _ ≤ 17; omega)⟩ (fun ad5 hx4 he6 => ?_)
  refine j_re (L' := [(0, .ref (ad5 5 0)), (1, .int a1)]) (st' := [.ref (ad5 20 (gN χ 8 2))]) (by rw [hx4.lo (k := 5) (i := 0) (by decide)]) (by rw [he6]) ?_
  refine j_astore_n (L' := [(2, .ref (ad5 20 (gN χ 8 2))), (0, .ref (ad5 5 0)), (1, .int a1)]) C rfl (by decide) rfl dX9_rodRow_20 ?_
  refine j_iconst (v := 0) C (by decide) dX9_rodRow_21 ?_
  refine j_istore_n (L' := [(3, .int (0 : Int32)), (2, .ref (ad5 20 (gN χ 8 2))), (0, .ref (ad5 5 0)), (1, .int a1)]) C rfl (by decide) rfl dX9_rodRow_22 ?_
  exact j_sub [2, 3, 1, 0] rfl (t_X9_rodRow_23 C (Ext.trN hx1 hx4) 16 _ _ ⟨by omega, by omega⟩ (mkRow (wN χ 8 3 3) a1 (gI (wN χ 8 3 3) 14 1).toNatClampNeg) T a1 (gN χ 8 2) (0 : Int32) (mkRow_new (χ := (wN χ 8 3 3))) h)
set_option maxRecDepth 100000 in
set_option maxHeartbeats 4000000 in
theorem c_X9_rodRow {l : Launch} {g : Gc} {ad : Nat → Nat → Nat} {χ : Mem} {T : Nat → Mem} {σ : Mem} {a1 : Int32} {rr : (Mem × (Nat → Mem)) × Option Nat} (h : f_X9_rodRow χ T a1 = some rr) : Met l yX9_rodRow (WS yX9_rodRow cX9_rodRow 5 (some (.object "RodBench$Row"))) rm_X9_rodRow (PreW g ad χ T σ [.ref (ad 5 0), .int a1]) (PoER g χ ad rr.1.1 rr.1.2 σ (fun ad9 => (rr.2).map (ad9 20))) 2 17 (geB g) := by
  refine j_metW (by decide) (Nat.le_of_ble_eq_true rfl) fun p e s m below meth c C hname => ?_
  rw [f_X9_rodRow] at h
  exact j_sub [0, 1] rfl (t_X9_rodRow_0 C 0 0 ⟨Nat.le_of_ble_eq_true rfl, Nat.le_of_ble_eq_true rfl⟩ χ T a1 h)
set_option maxRecDepth 100000 in
set_option maxHeartbeats 4000000 in
theorem t_X9_thingFor_0 {σ : Mem} (C : Cx p s m args meth c cX9_thingFor 3 RX9 (some (.object "RodBench$Thing")) COM g) {rr : (Mem × (Nat → Mem)) × Nat} (cl sl : Nat) (hcs : cl + (2) ≤ 2 ∧ sl + (17) ≤ 17) (χ : Mem) (T : Nat → Mem) (a1 : Int32) (a2 : Int32) (h : f_X9_thingFor_0 χ T a1 a2 = some rr) : JJ p l e rm_X9_thingFor s m args below meth c 3 g ad (MQ below (PoER g χ ad rr.1.1 rr.1.2 σ (fun ad9 => thA ad9 (rr.2))) args s 2 17 (geB g)) χ T σ cl sl [(0, .ref (ad 5 0)), (1, .int a1), (2, .int a2)] 0 [] := by
  rw [f_X9_thingFor_0] at h
  refine j_iload_n C 1 rfl rfl dX9_thingFor_0 ?_
  by_cases hs1 : a1.toInt < 1 ∨ 4 < a1.toInt
  · replace h := (if_pos hs1).symm.trans h
    refine j_tableOut (tgt := 82) C hs1 (by decide) dX9_thingFor_1 ?_
    refine j_null C dX9_thingFor_82 ?_
    obtain rfl := Option.some.inj h
    refine j_re rfl rfl ?_
    exact j_aretE (f := (fun ad9 => thA ad9 0)) C Ext.rf rfl (Or.inl ⟨_, rfl⟩) (by omega) (by omega) dX9_thingFor_83
  · replace h := (if_neg hs1).symm.trans h
    by_cases hx2 : a1 = (1 : Int32)
    · replace h := (if_pos hx2).symm.trans h
      refine j_tableIn (off := 31) (tgt := 32) C (fun q => hs1 (Or.inl q)) (fun q => hs1 (Or.inr q)) (by rw [hx2]; rfl) (by decide) dX9_thingFor_1 ?_
      refine j_aload_n C 0 rfl rfl dX9_thingFor_32 ?_
      refine j_getG C in_X9 (by decide) cw_5 rfl 0 (by decide) mw_255 (fun _ h => h) rfl dX9_thingFor_33 ?_
      refine j_iload_n C 2 rfl rfl dX9_thingFor_36 ?_
      obtain ⟨q3, hq3, h⟩ := bi_some h
      refine j_callVi (As := [.int a2]) (rest := []) C (c_X2_isRod hq3) (cwV 1 C.ts (good_V mw_907 mw_685 mw_686 mw_64 mw_687) rfl rfl rfl (by decide +kernel) ⟨Nat.le_of_ble_eq_true rfl, Nat.le_of_ble_eq_true rfl⟩) (fun H hW => CW.rv C.k hW (by decide) cw_1 rfl) rfl rfl (Nat.le_of_ble_eq_true rfl) dX9_thingFor_37 ⟨(by show _ ≤ 2; omega), (by show _ ≤ 17; omega)⟩ ?_
      refine j_if_eq (tgt := 62) C (by decide) dX9_thingFor_40 (fun hc4 => ?_) (fun hc4 => ?_)
      · replace h := (if_pos hc4).symm.trans h
        refine j_null C dX9_thingFor_62 ?_
        obtain rfl := Option.some.inj h
        refine j_re rfl rfl ?_
        exact j_aretE (f := (fun ad9 => thA ad9 0)) C Ext.rf rfl (Or.inl ⟨_, rfl⟩) (by omega) (by omega) dX9_thingFor_63
      · replace h := (if_neg hc4).symm.trans h
        refine j_aload_n C 0 rfl rfl dX9_thingFor_43 ?_
        refine j_getG C in_X9 (by decide) cw_5 rfl 0 (by decide) mw_255 (fun _ h => h) rfl dX9_thingFor_44 ?_
        refine j_getG C in_X2 (by decide) cw_1 rfl 1 (by decide) mw_131 (fun _ h => h) rfl dX9_thingFor_47 ?_
        refine j_iload_n C 2 rfl rfl dX9_thingFor_50 ?_
        obtain ⟨hg5, h⟩ := gd_some h
        refine j_wt (fun wt6 => ?_)
        refine j_lgetK (ek := 19) C (by decide) (by decide) hg5 mw_918 ⟨Nat.le_of_ble_eq_true rfl, Nat.le_of_ble_eq_true rfl⟩ (Nat.le_of_ble_eq_true rfl) dX9_thingFor_51 ⟨(by show _ ≤ 2; omega), (by show _ ≤ 17; omega)⟩ ?_
        refine j_castThing C (wt_19 wt6 (by decide) (by decide) hg5) mw_253 dX9_thingFor_56 ?_
        refine j_goto (tgt := 63) C (by decide) dX9_thingFor_59 ?_
        obtain rfl := Option.some.inj h
        refine j_re rfl (congrArg (fun z => [z]) (th_rod (gN χ 1 a2.toNatClampNeg))) ?_
        exact j_aretE (f := (fun ad9 => thA ad9 (2 * (gN χ 1 a2.toNatClampNeg) + 1))) C Ext.rf rfl (Or.inl ⟨_, rfl⟩) (by omega) (by omega) dX9_thingFor_63
    · replace h := (if_neg hx2).symm.trans h
      by_cases hx7 : a1 = (2 : Int32)
      · replace h := (if_pos hx7).symm.trans h
        refine j_tableIn (off := 63) (tgt := 64) C (fun q => hs1 (Or.inl q)) (fun q => hs1 (Or.inr q)) (by rw [hx7]; rfl) (by decide) dX9_thingFor_1 ?_
        refine j_aload_n C 0 rfl rfl dX9_thingFor_64 ?_
        refine j_iload_n C 2 rfl rfl dX9_thingFor_65 ?_
        obtain ⟨q8, hq8, h⟩ := bi_some h
        refine j_callEq (As := [.int a2]) (rest := []) C (c_X9_motionRow hq8) (cwV 1 C.ts (good_V mw_919 mw_921 mw_25 mw_72 mw_922) rfl rfl rfl (by decide +kernel) ⟨Nat.le_of_ble_eq_true rfl, Nat.le_of_ble_eq_true rfl⟩) (fun H hW => CW.rv C.k hW (by decide) cw_5 rfl) rfl rfl (Nat.le_of_ble_eq_true rfl) dX9_thingFor_66 ⟨(by show _ ≤ 2; omega), (by show _ ≤ 17; omega)⟩ (fun ad10 hx9 => ?_)
        refine j_re (L' := [(0, .ref (ad10 5 0)), (1, .int a1), (2, .int a2)]) (st' := [va_rf ((q8.2).map (ad10 20))]) (by rw [hx9.lo (k := 5) (i := 0) (by decide)]) rfl ?_
        obtain rfl := Option.some.inj h
        refine j_re rfl (congrArg (fun z => [z]) (th_opt q8.2)) ?_
        exact j_aretE (f := (fun ad9 => thA ad9 (thO q8.2))) C hx9 rfl (Or.inl ⟨_, rfl⟩) (by omega) (by omega) dX9_thingFor_69
      · replace h := (if_neg hx7).symm.trans h
        by_cases hx11 : a1 = (3 : Int32)
        · replace h := (if_pos hx11).symm.trans h
          refine j_tableIn (off := 69) (tgt := 70) C (fun q => hs1 (Or.inl q)) (fun q => hs1 (Or.inr q)) (by rw [hx11]; rfl) (by decide) dX9_thingFor_1 ?_
          refine j_aload_n C 0 rfl rfl dX9_thingFor_70 ?_
          refine j_iconst (v := 3) C (by decide) dX9_thingFor_71 ?_
          obtain ⟨q12, hq12, h⟩ := bi_some h
          refine j_callEq (As := [.int (3 : Int32)]) (rest := []) C (c_X9_rodRow hq12) (cwV 1 C.ts (good_V mw_943 mw_945 mw_26 mw_72 mw_946) rfl rfl rfl (by decide +kernel) ⟨Nat.le_of_ble_eq_true rfl, Nat.le_of_ble_eq_true rfl⟩) (fun H hW => CW.rv C.k hW (by decide) cw_5 rfl) rfl rfl (Nat.le_of_ble_eq_true rfl) dX9_thingFor_72 ⟨(by show _ ≤ 2; omega), (by show _ ≤ 17; omega)⟩ (fun ad14 hx13 => ?_)
          refine j_re (L' := [(0, .ref (ad14 5 0)), (1, .int a1), (2, .int a2)]) (st' := [va_rf ((q12.2).map (ad14 20))]) (by rw [hx13.lo (k := 5) (i := 0) (by decide)]) rfl ?_
          obtain rfl := Option.some.inj h
          refine j_re rfl (congrArg (fun z => [z]) (th_opt q12.2)) ?_
          exact j_aretE (f := (fun ad9 => thA ad9 (thO q12.2))) C hx13 rfl (Or.inl ⟨_, rfl⟩) (by omega) (by omega) dX9_thingFor_75
        · replace h := (if_neg hx11).symm.trans h
          by_cases hx15 : a1 = (4 : Int32)
          · replace h := (if_pos hx15).symm.trans h
            refine j_tableIn (off := 75) (tgt := 76) C (fun q => hs1 (Or.inl q)) (fun q => hs1 (Or.inr q)) (by rw [hx15]; rfl) (by decide) dX9_thingFor_1 ?_
            refine j_aload_n C 0 rfl rfl dX9_thingFor_76 ?_
            refine j_iconst (v := 4) C (by decide) dX9_thingFor_77 ?_
            obtain ⟨q16, hq16, h⟩ := bi_some h
            refine j_callEq (As := [.int (4 : Int32)]) (rest := []) C (c_X9_rodRow hq16) (cwV 1 C.ts (good_V mw_943 mw_945 mw_26 mw_72 mw_946) rfl rfl rfl (by decide +kernel) ⟨Nat.le_of_ble_eq_true rfl, Nat.le_of_ble_eq_true rfl⟩) (fun H hW => CW.rv C.k hW (by decide) cw_5 rfl) rfl rfl (Nat.le_of_ble_eq_true rfl) dX9_thingFor_78 ⟨(by show _ ≤ 2; omega), (by show _ ≤ 17; omega)⟩ (fun ad18 hx17 => ?_)
            refine j_re (L' := [(0, .ref (ad18 5 0)), (1, .int a1), (2, .int a2)]) (st' := [va_rf ((q16.2).map (ad18 20))]) (by rw [hx17.lo (k := 5) (i := 0) (by decide)]) rfl ?_
            obtain rfl := Option.some.inj h
            refine j_re rfl (congrArg (fun z => [z]) (th_opt q16.2)) ?_
            exact j_aretE (f := (fun ad9 => thA ad9 (thO q16.2))) C hx17 rfl (Or.inl ⟨_, rfl⟩) (by omega) (by omega) dX9_thingFor_81
          · replace h := (if_neg hx15).symm.trans h
            cases h
set_option maxRecDepth 100000 in
set_option maxHeartbeats 4000000 in
theorem c_X9_thingFor {l : Launch} {g : Gc} {ad : Nat → Nat → Nat} {χ : Mem} {T : Nat → Mem} {σ : Mem} {a1 : Int32} {a2 : Int32} {rr : (Mem × (Nat → Mem)) × Nat} (h : f_X9_thingFor χ T a1 a2 = some rr) : Met l yX9_thingFor (WS yX9_thingFor cX9_thingFor 3 (some (.object "RodBench$Thing"))) rm_X9_thingFor (PreW g ad χ T σ [.ref (ad 5 0), .int a1, .int a2]) (PoER g χ ad rr.1.1 rr.1.2 σ (fun ad9 => thA ad9 (rr.2))) 2 17 (geB g) := by
  refine j_metW (by decide) (Nat.le_of_ble_eq_true rfl) fun p e s m below meth c C hname => ?_
  rw [f_X9_thingFor] at h
  exact j_sub [0, 1, 2] rfl (t_X9_thingFor_0 C 0 0 ⟨Nat.le_of_ble_eq_true rfl, Nat.le_of_ble_eq_true rfl⟩ χ T a1 a2 h)
set_option maxRecDepth 100000 in
set_option maxHeartbeats 4000000 in
theorem t_X9_fill_16 {σ : Mem} {χ0 : Mem} {ad0 : Nat → Nat → Nat} (C : Cx p s m args meth c cX9_fill 4 RX9 (some .int) COM g) (hx : Ext χ0 ad0 ad) {rr : (Mem × (Nat → Mem)) × Int32} (cl sl : Nat) (hcs : cl + (0) ≤ 2 ∧ sl + (0) ≤ 17) (χ : Mem) (T : Nat → Mem) (h : f_X9_fill_16 χ T = some rr) : JJ p l e rm_X9_fill s m args below meth c 4 g ad (MQ below (PoEI g χ0 ad0 rr.1.1 rr.1.2 σ rr.2) args s 2 17 (geB g)) χ T σ cl sl [(0, .ref (ad 5 0))] 16 [] := by
  rw [f_X9_fill_16] at h
  refine j_aload_n C 0 rfl rfl dX9_fill_16 ?_
  refine j_iconst (v := 1) C (by decide) dX9_fill_17 ?_
  obtain ⟨q1, hq1, h⟩ := bi_some h
  refine j_callVi (As := [.int (1 : Int32)]) (rest := []) C (c_X9_refuse hq1) (cwV 1 C.ts (good_V mw_909 mw_911 mw_23 mw_72 mw_912) rfl rfl rfl (by decide +kernel) ⟨Nat.le_of_ble_eq_true rfl, Nat.le_of_ble_eq_true rfl⟩) (fun H hW => CW.rv C.k hW (by decide) cw_5 rfl) rfl rfl (Nat.le_of_ble_eq_true rfl) dX9_fill_18 ⟨(by show _ ≤ 2; omega), (by show _ ≤ 17; omega)⟩ ?_
  obtain rfl := Option.some.inj h
  exact j_iretE C hx rfl rfl (by omega) (by omega) dX9_fill_21
set_option maxRecDepth 100000 in
set_option maxHeartbeats 4000000 in
theorem t_X9_fill_0 {σ : Mem} (C : Cx p s m args meth c cX9_fill 4 RX9 (some .int) COM g) {rr : (Mem × (Nat → Mem)) × Int32} (cl sl : Nat) (hcs : cl + (2) ≤ 2 ∧ sl + (17) ≤ 17) (χ : Mem) (T : Nat → Mem) (a1 : Int32) (a2 : Int32) (a3 : Int32) (h : f_X9_fill_0 χ T a1 a2 a3 = some rr) : JJ p l e rm_X9_fill s m args below meth c 4 g ad (MQ below (PoEI g χ ad rr.1.1 rr.1.2 σ rr.2) args s 2 17 (geB g)) χ T σ cl sl [(0, .ref (ad 5 0)), (1, .int a1), (2, .int a2), (3, .int a3)] 0 [] := by
  rw [f_X9_fill_0] at h
  refine j_iload_n C 1 rfl rfl dX9_fill_0 ?_
  obtain ⟨q1, hq1, h⟩ := bi_some h
  refine j_callSi (As := [.int a1]) (rest := []) C (c_X9_isTray hq1) (va_cwS 1 C.ts (good_S mw_900 mw_901 mw_72 mw_902) rfl rfl rfl (by decide +kernel) ⟨Nat.le_of_ble_eq_true rfl, Nat.le_of_ble_eq_true rfl⟩) rfl rfl (Nat.le_of_ble_eq_true rfl) dX9_fill_1 ⟨(by show _ ≤ 2; omega), (by show _ ≤ 17; omega)⟩ ?_
  refine j_if_eq (tgt := 16) C (by decide) dX9_fill_4 (fun hc2 => ?_) (fun hc2 => ?_)
  · replace h := (if_pos hc2).symm.trans h
    exact j_sub [0] rfl (t_X9_fill_16 C Ext.rf _ _ ⟨by omega, by omega⟩ χ T h)
  · replace h := (if_neg hc2).symm.trans h
    refine j_aload_n C 0 rfl rfl dX9_fill_7 ?_
    refine j_iload_n C 2 rfl rfl dX9_fill_8 ?_
    refine j_iload_n C 3 rfl rfl dX9_fill_9 ?_
    obtain ⟨q3, hq3, h⟩ := bi_some h
    refine j_callVi (As := [.int a2, .int a3]) (rest := []) C (c_X9_isThing hq3) (cwV 2 C.ts (good_V mw_903 mw_905 mw_22 mw_72 mw_906) rfl rfl rfl (by decide +kernel) ⟨Nat.le_of_ble_eq_true rfl, Nat.le_of_ble_eq_true rfl⟩) (fun H hW => CW.rv C.k hW (by decide) cw_5 rfl) rfl rfl (Nat.le_of_ble_eq_true rfl) dX9_fill_10 ⟨(by show _ ≤ 2; omega), (by show _ ≤ 17; omega)⟩ ?_
    refine j_if_ne (tgt := 22) C (by decide) dX9_fill_13 (fun hc4 => ?_) (fun hc4 => ?_)
    · replace h := (if_neg hc4).symm.trans h
      refine j_aload_n C 0 rfl rfl dX9_fill_22 ?_
      refine j_getG C in_X9 (by decide) cw_5 rfl 2 (by decide) mw_257 (fun _ h => h) rfl dX9_fill_23 ?_
      refine j_iload_n C 1 rfl rfl dX9_fill_26 ?_
      refine j_aload_n C 0 rfl rfl dX9_fill_27 ?_
      refine j_iload_n C 2 rfl rfl dX9_fill_28 ?_
      refine j_iload_n C 3 rfl rfl dX9_fill_29 ?_
      obtain ⟨q5, hq5, h⟩ := bi_some h
      refine j_callEq (As := [.int a2, .int a3]) (rest := [.int a1, .ref (ad 8 0)]) C (c_X9_thingFor hq5) (cwV 2 C.ts (good_V mw_913 mw_915 mw_24 mw_72 mw_916) rfl rfl rfl (by decide +kernel) ⟨Nat.le_of_ble_eq_true rfl, Nat.le_of_ble_eq_true rfl⟩) (fun H hW => CW.rv C.k hW (by decide) cw_5 rfl) rfl rfl (Nat.le_of_ble_eq_true rfl) dX9_fill_30 ⟨(by show _ ≤ 2; omega), (by show _ ≤ 17; omega)⟩ (fun ad7 hx6 => ?_)
      refine j_re (L' := [(0, .ref (ad7 5 0)), (1, .int a1), (2, .int a2), (3, .int a3)]) (st' := [va_rf (thA ad7 q5.2), .int a1, .ref (ad7 8 0)]) (by rw [hx6.lo (k := 5) (i := 0) (by decide)]) (by rw [hx6.lo (k := 8) (i := 0) (by decide)]) ?_
      obtain ⟨hg8, h⟩ := gd_some h
      obtain ⟨hg9, h⟩ := gd_some h
      refine j_thput C hg8 (TVb_ok hg9) dX9_fill_33 ?_
      refine j_aload_n C 0 rfl rfl dX9_fill_34 ?_
      refine j_iconst (v := 1) C (by decide) dX9_fill_35 ?_
      obtain ⟨q10, hq10, h⟩ := bi_some h
      refine j_callVi (As := [.int (1 : Int32)]) (rest := []) C (c_X9_done hq10) (cwV 1 C.ts (good_V mw_948 mw_950 mw_27 mw_72 mw_951) rfl rfl rfl (by decide +kernel) ⟨Nat.le_of_ble_eq_true rfl, Nat.le_of_ble_eq_true rfl⟩) (fun H hW => CW.rv C.k hW (by decide) cw_5 rfl) rfl rfl (Nat.le_of_ble_eq_true rfl) dX9_fill_36 ⟨(by show _ ≤ 2; omega), (by show _ ≤ 17; omega)⟩ ?_
      obtain rfl := Option.some.inj h
      exact j_iretE C hx6 rfl rfl (by omega) (by omega) dX9_fill_39
    · replace h := (if_pos hc4).symm.trans h
      exact j_sub [0] rfl (t_X9_fill_16 C Ext.rf _ _ ⟨by omega, by omega⟩ χ T h)
set_option maxRecDepth 100000 in
set_option maxHeartbeats 4000000 in
theorem c_X9_fill {l : Launch} {g : Gc} {ad : Nat → Nat → Nat} {χ : Mem} {T : Nat → Mem} {σ : Mem} {a1 : Int32} {a2 : Int32} {a3 : Int32} {rr : (Mem × (Nat → Mem)) × Int32} (h : f_X9_fill χ T a1 a2 a3 = some rr) : Met l yX9_fill (WS yX9_fill cX9_fill 4 (some .int)) rm_X9_fill (PreW g ad χ T σ [.ref (ad 5 0), .int a1, .int a2, .int a3]) (PoEI g χ ad rr.1.1 rr.1.2 σ rr.2) 2 17 (geB g) := by
  refine j_metW (by decide) (Nat.le_of_ble_eq_true rfl) fun p e s m below meth c C hname => ?_
  rw [f_X9_fill] at h
  exact j_sub [0, 1, 2, 3] rfl (t_X9_fill_0 C 0 0 ⟨Nat.le_of_ble_eq_true rfl, Nat.le_of_ble_eq_true rfl⟩ χ T a1 a2 a3 h)
set_option maxRecDepth 100000 in
set_option maxHeartbeats 4000000 in
theorem t_X9_work_19 {σ : Mem} (C : Cx p s m args meth c cX9_work 5 RX9 (some .int) COM g) {rr : (Mem × (Nat → Mem)) × Int32} (χ : Mem) (T : Nat → Mem) (h : f_X9_work_19 χ T = some rr) : JJ p l e rm_X9_work s m args below meth c 5 g ad (MQ below (PoI g ad rr.1.1 rr.1.2 σ rr.2) args s 0 0 (geB g)) χ T σ 0 0 [(0, .ref (ad 5 0))] 19 [] := by
  rw [f_X9_work_19] at h
  refine j_aload_n C 0 rfl rfl dX9_work_19 ?_
  refine j_iconst (v := 1) C (by decide) dX9_work_20 ?_
  obtain ⟨q1, hq1, h⟩ := bi_some h
  refine j_callVi (As := [.int (1 : Int32)]) (rest := []) C (c_X9_refuse hq1) (cwV 1 C.ts (good_V mw_909 mw_911 mw_23 mw_72 mw_912) rfl rfl rfl (by decide +kernel) ⟨Nat.le_of_ble_eq_true rfl, Nat.le_of_ble_eq_true rfl⟩) (fun H hW => CW.rv C.k hW (by decide) cw_5 rfl) rfl rfl (Nat.le_of_ble_eq_true rfl) dX9_work_21 ⟨Nat.zero_le _, Nat.zero_le _⟩ ?_
  obtain rfl := Option.some.inj h
  exact j_iret C rfl rfl (Nat.le_refl _) (Nat.le_refl _) dX9_work_24
set_option maxRecDepth 100000 in
set_option maxHeartbeats 4000000 in
theorem t_X9_work_0 {σ : Mem} (C : Cx p s m args meth c cX9_work 5 RX9 (some .int) COM g) {rr : (Mem × (Nat → Mem)) × Int32} (χ : Mem) (T : Nat → Mem) (a1 : Int32) (a2 : Int32) (a3 : Int32) (h : f_X9_work_0 χ T a1 a2 a3 = some rr) : JJ p l e rm_X9_work s m args below meth c 5 g ad (MQ below (PoI g ad rr.1.1 rr.1.2 σ rr.2) args s 0 0 (geB g)) χ T σ 0 0 [(0, .ref (ad 5 0)), (1, .int a1), (2, .int a2), (3, .int a3)] 0 [] := by
  rw [f_X9_work_0] at h
  refine j_iload_n C 1 rfl rfl dX9_work_0 ?_
  obtain ⟨q1, hq1, h⟩ := bi_some h
  refine j_callSi (As := [.int a1]) (rest := []) C (c_X9_isTray hq1) (va_cwS 1 C.ts (good_S mw_900 mw_901 mw_72 mw_902) rfl rfl rfl (by decide +kernel) ⟨Nat.le_of_ble_eq_true rfl, Nat.le_of_ble_eq_true rfl⟩) rfl rfl (Nat.le_of_ble_eq_true rfl) dX9_work_1 ⟨Nat.zero_le _, Nat.zero_le _⟩ ?_
  refine j_if_eq (tgt := 19) C (by decide) dX9_work_4 (fun hc2 => ?_) (fun hc2 => ?_)
  · replace h := (if_pos hc2).symm.trans h
    exact j_sub [0] rfl (t_X9_work_19 C χ T h)
  · replace h := (if_neg hc2).symm.trans h
    refine j_iload_n C 3 rfl rfl dX9_work_7 ?_
    refine j_bipush (v := -100) C (by decide) dX9_work_8 ?_
    refine j_icmp_lt (tgt := 19) C (by decide) dX9_work_10 (fun hc3 => ?_) (fun hc3 => ?_)
    · replace h := (if_pos hc3).symm.trans h
      exact j_sub [0] rfl (t_X9_work_19 C χ T h)
    · replace h := (if_neg hc3).symm.trans h
      refine j_iload_n C 3 rfl rfl dX9_work_13 ?_
      refine j_bipush (v := 100) C (by decide) dX9_work_14 ?_
      refine j_icmp_le (tgt := 25) C (by decide) dX9_work_16 (fun hc4 => ?_) (fun hc4 => ?_)
      · replace h := (if_pos hc4).symm.trans h
        refine j_aload_n C 0 rfl rfl dX9_work_25 ?_
        refine j_getG C in_X9 (by decide) cw_5 rfl 2 (by decide) mw_257 (fun _ h => h) rfl dX9_work_26 ?_
        refine j_iload_n C 1 rfl rfl dX9_work_29 ?_
        obtain ⟨hg5, h⟩ := gd_some h
        refine j_thget C hg5 dX9_work_30 ?_
        refine j_astoreR (L' := [(4, va_rf (thA ad (gN χ 10 a1.toNatClampNeg))), (0, .ref (ad 5 0)), (1, .int a1), (2, .int a2), (3, .int a3)]) C (by decide) (by generalize thA ad (gN χ 10 a1.toNatClampNeg) = r9; cases r9 <;> rfl) dX9_work_31 ?_
        refine j_iload_n C 3 rfl rfl dX9_work_33 ?_
        by_cases hs6 : a2.toInt < 0 ∨ 8 < a2.toInt
        · replace h := (if_pos hs6).symm.trans h
          refine j_tableOut (tgt := 186) C hs6 (by decide) dX9_work_34 ?_
          refine j_aload_n C 1 rfl rfl dX9_work_186 ?_
          refine j_iconst (v := 1) C (by decide) dX9_work_187 ?_
          obtain ⟨q7, hq7, h⟩ := bi_some h
          refine j_callVi (As := [.int (1 : Int32)]) (rest := []) C (c_X9_refuse hq7) (cwV 1 C.ts (good_V mw_909 mw_911 mw_23 mw_72 mw_912) rfl rfl rfl (by decide +kernel) ⟨Nat.le_of_ble_eq_true rfl, Nat.le_of_ble_eq_true rfl⟩) (fun H hW => CW.rv C.k hW (by decide) cw_5 rfl) rfl rfl (Nat.le_of_ble_eq_true rfl) dX9_work_188 ⟨Nat.zero_le _, Nat.zero_le _⟩ ?_
          obtain rfl := Option.some.inj h
          exact j_iret C rfl rfl (Nat.le_refl _) (Nat.le_refl _) dX9_work_191
        · replace h := (if_neg hs6).symm.trans h
          by_cases hx8 : a2 = (0 : Int32)
          · replace h := (if_pos hx8).symm.trans h
            refine j_tableIn (off := 50) (tgt := 84) C (fun q => hs6 (Or.inl q)) (fun q => hs6 (Or.inr q)) (by rw [hx8]; rfl) (by decide) dX9_work_34 ?_
            refine j_aload_n C 1 rfl rfl dX9_work_84 ?_
            refine j_aloadR C 0 rfl dX9_work_85 ?_
            refine j_iload_n C 4 rfl rfl dX9_work_87 ?_
            refine j_iconst (v := 5) C (by decide) dX9_work_88 ?_
            obtain ⟨q9, hq9, h⟩ := bi_some h
            refine j_callSi (As := [.int a3, .int (5 : Int32)]) (rest := [va_rf (thA ad (gN χ 10 a1.toNatClampNeg)), .ref (ad 5 0)]) C (c_J9_floorMod_7cf53 hq9) (va_cwS 2 C.ts (good_S mw_960 mw_961 mw_78 mw_962) rfl rfl rfl (by decide +kernel) ⟨Nat.le_of_ble_eq_true rfl, Nat.le_of_ble_eq_true rfl⟩) rfl rfl (by generalize thA ad (gN χ 10 a1.toNatClampNeg) = r9; cases r9 <;> exact Nat.le_of_ble_eq_true rfl) dX9_work_89 ⟨Nat.zero_le _, Nat.zero_le _⟩ ?_
            obtain ⟨q10, hq10, h⟩ := bi_some h
            refine j_callVi (As := [va_rf (thA ad (gN χ 10 a1.toNatClampNeg)), .int q9]) (rest := []) C (c_X9_firstPinAs hq10) (cwV 2 C.ts (good_V mw_963 mw_965 mw_28 mw_72 mw_966) rfl rfl rfl (by decide +kernel) ⟨Nat.le_of_ble_eq_true rfl, Nat.le_of_ble_eq_true rfl⟩) (fun H hW => CW.rv C.k hW (by decide) cw_5 rfl) rfl rfl (Nat.le_of_ble_eq_true rfl) dX9_work_92 ⟨Nat.zero_le _, Nat.zero_le _⟩ ?_
            obtain rfl := Option.some.inj h
            exact j_iret C rfl rfl (Nat.le_refl _) (Nat.le_refl _) dX9_work_95
          · replace h := (if_neg hx8).symm.trans h
            by_cases hx11 : a2 = (1 : Int32)
            · replace h := (if_pos hx11).symm.trans h
              refine j_tableIn (off := 62) (tgt := 96) C (fun q => hs6 (Or.inl q)) (fun q => hs6 (Or.inr q)) (by rw [hx11]; rfl) (by decide) dX9_work_34 ?_
              refine j_aload_n C 1 rfl rfl dX9_work_96 ?_
              refine j_aloadR C 0 rfl dX9_work_97 ?_
              refine j_iload_n C 4 rfl rfl dX9_work_99 ?_
              obtain ⟨q12, hq12, h⟩ := bi_some h
              refine j_callVi (As := [va_rf (thA ad (gN χ 10 a1.toNatClampNeg)), .int a3]) (rest := []) C (c_X9_howManyAre hq12) (cwV 2 C.ts (good_V mw_968 mw_970 mw_29 mw_72 mw_971) rfl rfl rfl (by decide +kernel) ⟨Nat.le_of_ble_eq_true rfl, Nat.le_of_ble_eq_true rfl⟩) (fun H hW => CW.rv C.k hW (by decide) cw_5 rfl) rfl rfl (Nat.le_of_ble_eq_true rfl) dX9_work_100 ⟨Nat.zero_le _, Nat.zero_le _⟩ ?_
              obtain rfl := Option.some.inj h
              exact j_iret C rfl rfl (Nat.le_refl _) (Nat.le_refl _) dX9_work_103
            · replace h := (if_neg hx11).symm.trans h
              by_cases hx13 : a2 = (2 : Int32)
              · replace h := (if_pos hx13).symm.trans h
                refine j_tableIn (off := 70) (tgt := 104) C (fun q => hs6 (Or.inl q)) (fun q => hs6 (Or.inr q)) (by rw [hx13]; rfl) (by decide) dX9_work_34 ?_
                refine j_aload_n C 1 rfl rfl dX9_work_104 ?_
                refine j_aloadR C 0 rfl dX9_work_105 ?_
                refine j_iconst (v := 3) C (by decide) dX9_work_107 ?_
                refine j_iload_n C 4 rfl rfl dX9_work_108 ?_
                obtain ⟨q14, hq14, h⟩ := bi_some h
                refine j_callVi (As := [va_rf (thA ad (gN χ 10 a1.toNatClampNeg)), .int (3 : Int32), .int a3]) (rest := []) C (c_X9_numberAt hq14) (cwV 3 C.ts (good_V mw_979 mw_981 mw_31 mw_72 mw_982) rfl rfl rfl (by decide +kernel) ⟨Nat.le_of_ble_eq_true rfl, Nat.le_of_ble_eq_true rfl⟩) (fun H hW => CW.rv C.k hW (by decide) cw_5 rfl) rfl rfl (Nat.le_of_ble_eq_true rfl) dX9_work_109 ⟨Nat.zero_le _, Nat.zero_le _⟩ ?_
                obtain rfl := Option.some.inj h
                exact j_iret C rfl rfl (Nat.le_refl _) (Nat.le_refl _) dX9_work_112
              · replace h := (if_neg hx13).symm.trans h
                by_cases hx15 : a2 = (3 : Int32)
                · replace h := (if_pos hx15).symm.trans h
                  refine j_tableIn (off := 79) (tgt := 113) C (fun q => hs6 (Or.inl q)) (fun q => hs6 (Or.inr q)) (by rw [hx15]; rfl) (by decide) dX9_work_34 ?_
                  refine j_aload_n C 1 rfl rfl dX9_work_113 ?_
                  refine j_aloadR C 0 rfl dX9_work_114 ?_
                  refine j_iconst (v := 4) C (by decide) dX9_work_116 ?_
                  refine j_iload_n C 4 rfl rfl dX9_work_117 ?_
                  obtain ⟨q16, hq16, h⟩ := bi_some h
                  refine j_callVi (As := [va_rf (thA ad (gN χ 10 a1.toNatClampNeg)), .int (4 : Int32), .int a3]) (rest := []) C (c_X9_numberAt hq16) (cwV 3 C.ts (good_V mw_979 mw_981 mw_31 mw_72 mw_982) rfl rfl rfl (by decide +kernel) ⟨Nat.le_of_ble_eq_true rfl, Nat.le_of_ble_eq_true rfl⟩) (fun H hW => CW.rv C.k hW (by decide) cw_5 rfl) rfl rfl (Nat.le_of_ble_eq_true rfl) dX9_work_118 ⟨Nat.zero_le _, Nat.zero_le _⟩ ?_
                  obtain rfl := Option.some.inj h
                  exact j_iret C rfl rfl (Nat.le_refl _) (Nat.le_refl _) dX9_work_121
                · replace h := (if_neg hx15).symm.trans h
                  by_cases hx17 : a2 = (4 : Int32)
                  · replace h := (if_pos hx17).symm.trans h
                    refine j_tableIn (off := 88) (tgt := 122) C (fun q => hs6 (Or.inl q)) (fun q => hs6 (Or.inr q)) (by rw [hx17]; rfl) (by decide) dX9_work_34 ?_
                    refine j_iload_n C 4 rfl rfl dX9_work_122 ?_
                    refine j_if_ge (tgt := 135) C (by decide) dX9_work_123 (fun hc18 => ?_) (fun hc18 => ?_)
                    · replace h := (if_pos hc18).symm.trans h
                      refine j_aload_n C 1 rfl rfl dX9_work_135 ?_
                      refine j_iload_n C 4 rfl rfl dX9_work_136 ?_
                      obtain ⟨q19, hq19, h⟩ := bi_some h
                      refine j_callVi (As := [.int a3]) (rest := []) C (c_X9_done hq19) (cwV 1 C.ts (good_V mw_948 mw_950 mw_27 mw_72 mw_951) rfl rfl rfl (by decide +kernel) ⟨Nat.le_of_ble_eq_true rfl, Nat.le_of_ble_eq_true rfl⟩) (fun H hW => CW.rv C.k hW (by decide) cw_5 rfl) rfl rfl (Nat.le_of_ble_eq_true rfl) dX9_work_137 ⟨Nat.zero_le _, Nat.zero_le _⟩ ?_
                      obtain rfl := Option.some.inj h
                      exact j_iret C rfl rfl (Nat.le_refl _) (Nat.le_refl _) dX9_work_140
                    · replace h := (if_neg hc18).symm.trans h
                      refine j_aload_n C 1 rfl rfl dX9_work_126 ?_
                      refine j_bipush (v := 13) C (by decide) dX9_work_127 ?_
                      obtain ⟨q20, hq20, h⟩ := bi_some h
                      refine j_callVi (As := [.int (13 : Int32)]) (rest := []) C (c_X9_refuse hq20) (cwV 1 C.ts (good_V mw_909 mw_911 mw_23 mw_72 mw_912) rfl rfl rfl (by decide +kernel) ⟨Nat.le_of_ble_eq_true rfl, Nat.le_of_ble_eq_true rfl⟩) (fun H hW => CW.rv C.k hW (by decide) cw_5 rfl) rfl rfl (Nat.le_of_ble_eq_true rfl) dX9_work_129 ⟨Nat.zero_le _, Nat.zero_le _⟩ ?_
                      refine j_goto (tgt := 140) C (by decide) dX9_work_132 ?_
                      obtain rfl := Option.some.inj h
                      exact j_iret C rfl rfl (Nat.le_refl _) (Nat.le_refl _) dX9_work_140
                  · replace h := (if_neg hx17).symm.trans h
                    by_cases hx21 : a2 = (5 : Int32)
                    · replace h := (if_pos hx21).symm.trans h
                      refine j_tableIn (off := 107) (tgt := 141) C (fun q => hs6 (Or.inl q)) (fun q => hs6 (Or.inr q)) (by rw [hx21]; rfl) (by decide) dX9_work_34 ?_
                      refine j_aload_n C 1 rfl rfl dX9_work_141 ?_
                      refine j_aloadR C 0 rfl dX9_work_142 ?_
                      refine j_iload_n C 4 rfl rfl dX9_work_144 ?_
                      obtain ⟨q22, hq22, h⟩ := bi_some h
                      refine j_callVi (As := [va_rf (thA ad (gN χ 10 a1.toNatClampNeg)), .int a3]) (rest := []) C (c_X9_sumOfCopied hq22) (cwV 2 C.ts (good_V mw_983 mw_985 mw_32 mw_72 mw_986) rfl rfl rfl (by decide +kernel) ⟨Nat.le_of_ble_eq_true rfl, Nat.le_of_ble_eq_true rfl⟩) (fun H hW => CW.rv C.k hW (by decide) cw_5 rfl) rfl rfl (Nat.le_of_ble_eq_true rfl) dX9_work_145 ⟨Nat.zero_le _, Nat.zero_le _⟩ ?_
                      obtain rfl := Option.some.inj h
                      exact j_iret C rfl rfl (Nat.le_refl _) (Nat.le_refl _) dX9_work_148
                    · replace h := (if_neg hx21).symm.trans h
                      by_cases hx23 : a2 = (6 : Int32)
                      · replace h := (if_pos hx23).symm.trans h
                        refine j_tableIn (off := 115) (tgt := 149) C (fun q => hs6 (Or.inl q)) (fun q => hs6 (Or.inr q)) (by rw [hx23]; rfl) (by decide) dX9_work_34 ?_
                        refine j_aload_n C 1 rfl rfl dX9_work_149 ?_
                        refine j_aloadR C 0 rfl dX9_work_150 ?_
                        obtain ⟨q24, hq24, h⟩ := bi_some h
                        refine j_callVi (As := [va_rf (thA ad (gN χ 10 a1.toNatClampNeg))]) (rest := []) C (c_X9_priceAsSpare hq24) (cwV 1 C.ts (good_V mw_987 mw_989 mw_33 mw_72 mw_990) rfl rfl rfl (by decide +kernel) ⟨Nat.le_of_ble_eq_true rfl, Nat.le_of_ble_eq_true rfl⟩) (fun H hW => CW.rv C.k hW (by decide) cw_5 rfl) rfl rfl (Nat.le_of_ble_eq_true rfl) dX9_work_152 ⟨Nat.zero_le _, Nat.zero_le _⟩ ?_
                        obtain rfl := Option.some.inj h
                        exact j_iret C rfl rfl (Nat.le_refl _) (Nat.le_refl _) dX9_work_155
                      · replace h := (if_neg hx23).symm.trans h
                        by_cases hx25 : a2 = (7 : Int32)
                        · replace h := (if_pos hx25).symm.trans h
                          refine j_tableIn (off := 122) (tgt := 156) C (fun q => hs6 (Or.inl q)) (fun q => hs6 (Or.inr q)) (by rw [hx25]; rfl) (by decide) dX9_work_34 ?_
                          refine j_iload_n C 4 rfl rfl dX9_work_156 ?_
                          refine j_if_ne (tgt := 169) C (by decide) dX9_work_157 (fun hc26 => ?_) (fun hc26 => ?_)
                          · replace h := (if_neg hc26).symm.trans h
                            refine j_aload_n C 1 rfl rfl dX9_work_169 ?_
                            refine j_sipush (v := 1000) C (by decide) dX9_work_170 ?_
                            refine j_iload_n C 4 rfl rfl dX9_work_173 ?_
                            obtain ⟨hg27, h⟩ := gz_some h
                            refine j_idiv C hg27 dX9_work_174 ?_
                            obtain ⟨q28, hq28, h⟩ := bi_some h
                            refine j_callVi (As := [.int ((1000 : Int32) / a3)]) (rest := []) C (c_X9_done hq28) (cwV 1 C.ts (good_V mw_948 mw_950 mw_27 mw_72 mw_951) rfl rfl rfl (by decide +kernel) ⟨Nat.le_of_ble_eq_true rfl, Nat.le_of_ble_eq_true rfl⟩) (fun H hW => CW.rv C.k hW (by decide) cw_5 rfl) rfl rfl (Nat.le_of_ble_eq_true rfl) dX9_work_175 ⟨Nat.zero_le _, Nat.zero_le _⟩ ?_
                            obtain rfl := Option.some.inj h
                            exact j_iret C rfl rfl (Nat.le_refl _) (Nat.le_refl _) dX9_work_178
                          · replace h := (if_pos hc26).symm.trans h
                            refine j_aload_n C 1 rfl rfl dX9_work_160 ?_
                            refine j_bipush (v := 15) C (by decide) dX9_work_161 ?_
                            obtain ⟨q29, hq29, h⟩ := bi_some h
                            refine j_callVi (As := [.int (15 : Int32)]) (rest := []) C (c_X9_refuse hq29) (cwV 1 C.ts (good_V mw_909 mw_911 mw_23 mw_72 mw_912) rfl rfl rfl (by decide +kernel) ⟨Nat.le_of_ble_eq_true rfl, Nat.le_of_ble_eq_true rfl⟩) (fun H hW => CW.rv C.k hW (by decide) cw_5 rfl) rfl rfl (Nat.le_of_ble_eq_true rfl) dX9_work_163 ⟨Nat.zero_le _, Nat.zero_le _⟩ ?_
                            refine j_goto (tgt := 178) C (by decide) dX9_work_166 ?_
                            obtain rfl := Option.some.inj h
                            exact j_iret C rfl rfl (Nat.le_refl _) (Nat.le_refl _) dX9_work_178
                        · replace h := (if_neg hx25).symm.trans h
                          by_cases hx30 : a2 = (8 : Int32)
                          · replace h := (if_pos hx30).symm.trans h
                            refine j_tableIn (off := 145) (tgt := 179) C (fun q => hs6 (Or.inl q)) (fun q => hs6 (Or.inr q)) (by rw [hx30]; rfl) (by decide) dX9_work_34 ?_
                            refine j_aload_n C 1 rfl rfl dX9_work_179 ?_
                            refine j_bipush (v := 10) C (by decide) dX9_work_180 ?_
                            obtain ⟨q31, hq31, h⟩ := bi_some h
                            refine j_callVi (As := [.int (10 : Int32)]) (rest := []) C (c_X9_refuse hq31) (cwV 1 C.ts (good_V mw_909 mw_911 mw_23 mw_72 mw_912) rfl rfl rfl (by decide +kernel) ⟨Nat.le_of_ble_eq_true rfl, Nat.le_of_ble_eq_true rfl⟩) (fun H hW => CW.rv C.k hW (by decide) cw_5 rfl) rfl rfl (Nat.le_of_ble_eq_true rfl) dX9_work_182 ⟨Nat.zero_le _, Nat.zero_le _⟩ ?_
                            obtain rfl := Option.some.inj h
                            exact j_iret C rfl rfl (Nat.le_refl _) (Nat.le_refl _) dX9_work_185
                          · replace h := (if_neg hx30).symm.trans h
                            cases h
      · replace h := (if_neg hc4).symm.trans h
        exact j_sub [0] rfl (t_X9_work_19 C χ T h)
set_option maxRecDepth 100000 in
set_option maxHeartbeats 4000000 in
theorem c_X9_work {l : Launch} {g : Gc} {ad : Nat → Nat → Nat} {χ : Mem} {T : Nat → Mem} {σ : Mem} {a1 : Int32} {a2 : Int32} {a3 : Int32} {rr : (Mem × (Nat → Mem)) × Int32} (h : f_X9_work χ T a1 a2 a3 = some rr) : Met l yX9_work (WS yX9_work cX9_work 5 (some .int)) rm_X9_work (PreW g ad χ T σ [.ref (ad 5 0), .int a1, .int a2, .int a3]) (PoI g ad rr.1.1 rr.1.2 σ rr.2) 0 0 (geB g) := by
  refine j_metW (by decide) (Nat.le_of_ble_eq_true rfl) fun p e s m below meth c C hname => ?_
  rw [f_X9_work] at h
  exact j_sub [0, 1, 2, 3] rfl (t_X9_work_0 C χ T a1 a2 a3 h)
set_option maxRecDepth 100000 in
set_option maxHeartbeats 4000000 in
theorem t_X10_tray_0 {σ : Mem} (C : Cx p s m args meth c cX10_tray 4 RX10 (some .int) COM g) {rr : (Mem × (Nat → Mem)) × Int32} (cl sl : Nat) (hcs : cl + (2) ≤ 2 ∧ sl + (17) ≤ 17) (χ : Mem) (T : Nat → Mem) (a1 : Int32) (a2 : Int32) (a3 : Int32) (h : f_X10_tray_0 χ T a1 a2 a3 = some rr) : JJ p l e rm_X10_tray s m args below meth c 4 g ad (MQ below (PoEI g χ ad rr.1.1 rr.1.2 σ rr.2) args s 2 17 (geB g)) χ T σ cl sl [(0, .ref (ad 0 0)), (1, .int a1), (2, .int a2), (3, .int a3)] 0 [] := by
  rw [f_X10_tray_0] at h
  refine j_aload_n C 0 rfl rfl dX10_tray_0 ?_
  refine j_getG C in_X10 (by decide) cw_0 rfl 4 (by decide) mw_272 (fun _ h => h) rfl dX10_tray_1 ?_
  refine j_iload_n C 1 rfl rfl dX10_tray_4 ?_
  refine j_iload_n C 2 rfl rfl dX10_tray_5 ?_
  refine j_iload_n C 3 rfl rfl dX10_tray_6 ?_
  obtain ⟨q1, hq1, h⟩ := bi_some h
  refine j_callEi (As := [.int a1, .int a2, .int a3]) (rest := []) C (c_X9_fill hq1) (cwV 3 C.ts (good_V mw_896 mw_897 mw_898 mw_72 mw_899) rfl rfl rfl (by decide +kernel) ⟨Nat.le_of_ble_eq_true rfl, Nat.le_of_ble_eq_true rfl⟩) (fun H hW => CW.rv C.k hW (by decide) cw_5 rfl) rfl rfl (Nat.le_of_ble_eq_true rfl) dX10_tray_7 ⟨(by show _ ≤ 2; omega), (by show _ ≤ 17; omega)⟩ (fun ad3 hx2 => ?_)
  refine j_re (L' := [(0, .ref (ad3 0 0)), (1, .int a1), (2, .int a2), (3, .int a3)]) (st' := [.int q1.2]) (by rw [hx2.lo (k := 0) (i := 0) (by decide)]) rfl ?_
  obtain rfl := Option.some.inj h
  exact j_iretE C hx2 rfl rfl (by omega) (by omega) dX10_tray_10
set_option maxRecDepth 100000 in
set_option maxHeartbeats 4000000 in
theorem c_X10_tray {l : Launch} {g : Gc} {ad : Nat → Nat → Nat} {χ : Mem} {T : Nat → Mem} {σ : Mem} {a1 : Int32} {a2 : Int32} {a3 : Int32} {rr : (Mem × (Nat → Mem)) × Int32} (h : f_X10_tray χ T a1 a2 a3 = some rr) : Met l yX10_tray (WS yX10_tray cX10_tray 4 (some .int)) rm_X10_tray (PreW g ad χ T σ [.ref (ad 0 0), .int a1, .int a2, .int a3]) (PoEI g χ ad rr.1.1 rr.1.2 σ rr.2) 2 17 (geB g) := by
  refine j_metW (by decide) (Nat.le_of_ble_eq_true rfl) fun p e s m below meth c C hname => ?_
  rw [f_X10_tray] at h
  exact j_sub [0, 1, 2, 3] rfl (t_X10_tray_0 C 0 0 ⟨Nat.le_of_ble_eq_true rfl, Nat.le_of_ble_eq_true rfl⟩ χ T a1 a2 a3 h)
set_option maxRecDepth 100000 in
set_option maxHeartbeats 4000000 in
theorem t_X10_forge_0 {σ : Mem} (C : Cx p s m args meth c cX10_forge 4 RX10 (some .int) COM g) {rr : (Mem × (Nat → Mem)) × Int32} (χ : Mem) (T : Nat → Mem) (a1 : Int32) (a2 : Int32) (a3 : Int32) (h : f_X10_forge_0 χ T a1 a2 a3 = some rr) : JJ p l e rm_X10_forge s m args below meth c 4 g ad (MQ below (PoI g ad rr.1.1 rr.1.2 σ rr.2) args s 0 0 (geB g)) χ T σ 0 0 [(0, .ref (ad 0 0)), (1, .int a1), (2, .int a2), (3, .int a3)] 0 [] := by
  rw [f_X10_forge_0] at h
  refine j_aload_n C 0 rfl rfl dX10_forge_0 ?_
  refine j_getG C in_X10 (by decide) cw_0 rfl 4 (by decide) mw_272 (fun _ h => h) rfl dX10_forge_1 ?_
  refine j_iload_n C 1 rfl rfl dX10_forge_4 ?_
  refine j_iload_n C 2 rfl rfl dX10_forge_5 ?_
  refine j_iload_n C 3 rfl rfl dX10_forge_6 ?_
  obtain ⟨q1, hq1, h⟩ := bi_some h
  refine j_callVi (As := [.int a1, .int a2, .int a3]) (rest := []) C (c_X9_work hq1) (cwV 3 C.ts (good_V mw_956 mw_957 mw_958 mw_72 mw_959) rfl rfl rfl (by decide +kernel) ⟨Nat.le_of_ble_eq_true rfl, Nat.le_of_ble_eq_true rfl⟩) (fun H hW => CW.rv C.k hW (by decide) cw_5 rfl) rfl rfl (Nat.le_of_ble_eq_true rfl) dX10_forge_7 ⟨Nat.zero_le _, Nat.zero_le _⟩ ?_
  obtain rfl := Option.some.inj h
  exact j_iret C rfl rfl (Nat.le_refl _) (Nat.le_refl _) dX10_forge_10
set_option maxRecDepth 100000 in
set_option maxHeartbeats 4000000 in
theorem c_X10_forge {l : Launch} {g : Gc} {ad : Nat → Nat → Nat} {χ : Mem} {T : Nat → Mem} {σ : Mem} {a1 : Int32} {a2 : Int32} {a3 : Int32} {rr : (Mem × (Nat → Mem)) × Int32} (h : f_X10_forge χ T a1 a2 a3 = some rr) : Met l yX10_forge (WS yX10_forge cX10_forge 4 (some .int)) rm_X10_forge (PreW g ad χ T σ [.ref (ad 0 0), .int a1, .int a2, .int a3]) (PoI g ad rr.1.1 rr.1.2 σ rr.2) 0 0 (geB g) := by
  refine j_metW (by decide) (Nat.le_of_ble_eq_true rfl) fun p e s m below meth c C hname => ?_
  rw [f_X10_forge] at h
  exact j_sub [0, 1, 2, 3] rfl (t_X10_forge_0 C χ T a1 a2 a3 h)
end
