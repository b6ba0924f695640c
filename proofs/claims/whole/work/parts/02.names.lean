/-! ===== BEGIN printed: names, fields, word lists, decode rows ===== -/
noncomputable def RX0 : String := "RodBench$Balance"
noncomputable def TX0 : u_T := fun k => match k with
  | 0 => ("RodBench$Balance", "frame", "LRodBench$Frame;", true)
  | 1 => ("RodBench$Balance", "motions", "LRodBench$Table;", true)
  | _ => ("RodBench$Balance", "stresses", "LRodBench$Table;", true)
noncomputable def tyX0 : Nat → FieldType := fun k => match k with
  | 0 => .object "RodBench$Frame"
  | 1 => .object "RodBench$Table"
  | _ => .object "RodBench$Table"
noncomputable abbrev wsX00 : List Cond := u_ws RX0 TX0 3
theorem nmX0 : ∀ a, a < 3 → ∀ b, b < 3 → a ≠ b → (TX0 a).2.1 ≠ (TX0 b).2.1 := by decide +kernel
theorem tyX0_ok : ∀ k, k < 3 → parseFieldDescriptor (TX0 k).2.2.1 = some (tyX0 k) := by decide +kernel
noncomputable abbrev cX0_init : ByteArray := prog_2_method_1_code
noncomputable def yX0_init : MethodName := ⟨RX0, "<init>", "(LRodBench$Frame;)V"⟩
noncomputable abbrev cX0_motionCount : ByteArray := prog_2_method_2_code
noncomputable def yX0_motionCount : MethodName := ⟨RX0, "motionCount", "()I"⟩
noncomputable abbrev cX0_stressCount : ByteArray := prog_2_method_3_code
noncomputable def yX0_stressCount : MethodName := ⟨RX0, "stressCount", "()I"⟩
noncomputable abbrev cX0_isMotion : ByteArray := prog_2_method_4_code
noncomputable def yX0_isMotion : MethodName := ⟨RX0, "isMotion", "(I)Z"⟩
noncomputable abbrev cX0_isStress : ByteArray := prog_2_method_5_code
noncomputable def yX0_isStress : MethodName := ⟨RX0, "isStress", "(I)Z"⟩
noncomputable abbrev cX0_motionNumber : ByteArray := prog_2_method_6_code
noncomputable def yX0_motionNumber : MethodName := ⟨RX0, "motionNumber", "(ILRodBench$Pin;I)J"⟩
noncomputable abbrev cX0_stressNumber : ByteArray := prog_2_method_7_code
noncomputable def yX0_stressNumber : MethodName := ⟨RX0, "stressNumber", "(ILRodBench$Rod;)J"⟩
noncomputable abbrev cX0_isNeeded : ByteArray := prog_2_method_8_code
noncomputable def yX0_isNeeded : MethodName := ⟨RX0, "isNeeded", "(LRodBench$Rod;)Z"⟩
noncomputable abbrev cX0_isCarried : ByteArray := prog_2_method_9_code
noncomputable def yX0_isCarried : MethodName := ⟨RX0, "isCarried", "()Z"⟩
noncomputable abbrev cX0_forceAbove : ByteArray := prog_2_method_10_code
noncomputable def yX0_forceAbove : MethodName := ⟨RX0, "forceAbove", "(LRodBench$Rod;)J"⟩
noncomputable abbrev cX0_forceBelow : ByteArray := prog_2_method_11_code
noncomputable def yX0_forceBelow : MethodName := ⟨RX0, "forceBelow", "(LRodBench$Rod;)J"⟩
noncomputable abbrev cX0_workOf : ByteArray := prog_2_method_12_code
noncomputable def yX0_workOf : MethodName := ⟨RX0, "workOf", "(I)J"⟩
noncomputable abbrev cX0_renew : ByteArray := prog_2_method_13_code
noncomputable def yX0_renew : MethodName := ⟨RX0, "renew", "()V"⟩
noncomputable abbrev cX0_columnOf : ByteArray := prog_2_method_14_code
noncomputable def yX0_columnOf : MethodName := ⟨RX0, "columnOf", "(LRodBench$Rod;)I"⟩
noncomputable def RX1 : String := "RodBench$Bodies"
noncomputable def TX1 : u_T := fun k => match k with
  | 0 => ("RodBench$Bodies", "frame", "LRodBench$Frame;", true)
  | 1 => ("RodBench$Bodies", "chosen", "[I", true)
  | 2 => ("RodBench$Bodies", "found", "[I", true)
  | 3 => ("RodBench$Bodies", "foundCount", "I", false)
  | _ => ("RodBench$Bodies", "greatest", "I", false)
noncomputable def tyX1 : Nat → FieldType := fun k => match k with
  | 0 => .object "RodBench$Frame"
  | 1 => .array .int
  | 2 => .array .int
  | 3 => .int
  | _ => .int
noncomputable abbrev wsX10 : List Cond := u_ws RX1 TX1 5
theorem nmX1 : ∀ a, a < 5 → ∀ b, b < 5 → a ≠ b → (TX1 a).2.1 ≠ (TX1 b).2.1 := by decide +kernel
theorem tyX1_ok : ∀ k, k < 5 → parseFieldDescriptor (TX1 k).2.2.1 = some (tyX1 k) := by decide +kernel
noncomputable abbrev cX1_init : ByteArray := prog_3_method_1_code
noncomputable def yX1_init : MethodName := ⟨RX1, "<init>", "(LRodBench$Frame;)V"⟩
noncomputable abbrev cX1_bodyCount : ByteArray := prog_3_method_2_code
noncomputable def yX1_bodyCount : MethodName := ⟨RX1, "bodyCount", "()I"⟩
noncomputable abbrev cX1_isBody : ByteArray := prog_3_method_3_code
noncomputable def yX1_isBody : MethodName := ⟨RX1, "isBody", "(I)Z"⟩
noncomputable abbrev cX1_surplus : ByteArray := prog_3_method_4_code
noncomputable def yX1_surplus : MethodName := ⟨RX1, "surplus", "()I"⟩
noncomputable abbrev cX1_areAllOne : ByteArray := prog_3_method_5_code
noncomputable def yX1_areAllOne : MethodName := ⟨RX1, "areAllOne", "()Z"⟩
noncomputable abbrev cX1_leastBodyOf : ByteArray := prog_3_method_6_code
noncomputable def yX1_leastBodyOf : MethodName := ⟨RX1, "leastBodyOf", "(LRodBench$Rod;)I"⟩
noncomputable abbrev cX1_pinOf : ByteArray := prog_3_method_7_code
noncomputable def yX1_pinOf : MethodName := ⟨RX1, "pinOf", "(II)I"⟩
noncomputable abbrev cX1_renew : ByteArray := prog_3_method_8_code
noncomputable def yX1_renew : MethodName := ⟨RX1, "renew", "()V"⟩
noncomputable abbrev cX1_isInBody : ByteArray := prog_3_method_9_code
noncomputable def yX1_isInBody : MethodName := ⟨RX1, "isInBody", "(I)Z"⟩
noncomputable abbrev cX1_chooseRods : ByteArray := prog_3_method_10_code
noncomputable def yX1_chooseRods : MethodName := ⟨RX1, "chooseRods", "()V"⟩
noncomputable abbrev cX1_hasRoom : ByteArray := prog_3_method_11_code
noncomputable def yX1_hasRoom : MethodName := ⟨RX1, "hasRoom", "(I)Z"⟩
noncomputable abbrev cX1_choose : ByteArray := prog_3_method_12_code
noncomputable def yX1_choose : MethodName := ⟨RX1, "choose", "(I)V"⟩
noncomputable abbrev cX1_isFilled : ByteArray := prog_3_method_13_code
noncomputable def yX1_isFilled : MethodName := ⟨RX1, "isFilled", "(I)Z"⟩
noncomputable abbrev cX1_mostRods : ByteArray := prog_3_method_14_code
noncomputable def yX1_mostRods : MethodName := ⟨RX1, "mostRods", "(I)I"⟩
noncomputable abbrev cX1_holds : ByteArray := prog_3_method_15_code
noncomputable def yX1_holds : MethodName := ⟨RX1, "holds", "(II)Z"⟩
noncomputable abbrev cX1_endsOf : ByteArray := prog_3_method_16_code
noncomputable def yX1_endsOf : MethodName := ⟨RX1, "endsOf", "(LRodBench$Rod;)I"⟩
noncomputable abbrev cX1_bitOf : ByteArray := prog_3_method_17_code
noncomputable def yX1_bitOf : MethodName := ⟨RX1, "bitOf", "(I)I"⟩
noncomputable def RX2 : String := "RodBench$Frame"
noncomputable def TX2 : u_T := fun k => match k with
  | 0 => ("RodBench$Frame", "pins", "Ljava/util/List;", true)
  | 1 => ("RodBench$Frame", "rods", "Ljava/util/List;", true)
  | 2 => ("RodBench$Frame", "freePins", "Ljava/util/List;", true)
  | _ => ("RodBench$Frame", "rodsIn", "Ljava/util/List;", true)
noncomputable def tyX2 : Nat → FieldType := fun k => match k with
  | 0 => .object "java/util/List"
  | 1 => .object "java/util/List"
  | 2 => .object "java/util/List"
  | _ => .object "java/util/List"
noncomputable abbrev wsX20 : List Cond := u_ws RX2 TX2 4
theorem nmX2 : ∀ a, a < 4 → ∀ b, b < 4 → a ≠ b → (TX2 a).2.1 ≠ (TX2 b).2.1 := by decide +kernel
theorem tyX2_ok : ∀ k, k < 4 → parseFieldDescriptor (TX2 k).2.2.1 = some (tyX2 k) := by decide +kernel
noncomputable abbrev cX2_init : ByteArray := prog_4_method_1_code
noncomputable def yX2_init : MethodName := ⟨RX2, "<init>", "()V"⟩
noncomputable abbrev cX2_renew : ByteArray := prog_4_method_2_code
noncomputable def yX2_renew : MethodName := ⟨RX2, "renew", "()V"⟩
noncomputable abbrev cX2_isPin : ByteArray := prog_4_method_3_code
noncomputable def yX2_isPin : MethodName := ⟨RX2, "isPin", "(I)Z"⟩
noncomputable abbrev cX2_isRod : ByteArray := prog_4_method_4_code
noncomputable def yX2_isRod : MethodName := ⟨RX2, "isRod", "(I)Z"⟩
noncomputable abbrev cX2_pinAt : ByteArray := prog_4_method_5_code
noncomputable def yX2_pinAt : MethodName := ⟨RX2, "pinAt", "(II)LRodBench$Pin;"⟩
noncomputable abbrev cX2_areJoined : ByteArray := prog_4_method_6_code
noncomputable def yX2_areJoined : MethodName := ⟨RX2, "areJoined", "(LRodBench$Pin;LRodBench$Pin;)Z"⟩
noncomputable abbrev cX2_rodsInAt : ByteArray := prog_4_method_7_code
noncomputable def yX2_rodsInAt : MethodName := ⟨RX2, "rodsInAt", "(LRodBench$Pin;)I"⟩
noncomputable abbrev cX2_planeMotions : ByteArray := prog_4_method_8_code
noncomputable def yX2_planeMotions : MethodName := ⟨RX2, "planeMotions", "()I"⟩
noncomputable def RX3 : String := "RodBench$Offers"
noncomputable def TX3 : u_T := fun k => match k with
  | 0 => ("RodBench$Offers", "frame", "LRodBench$Frame;", true)
  | 1 => ("RodBench$Offers", "queue", "Ljava/util/List;", true)
  | 2 => ("RodBench$Offers", "taken", "Ljava/util/List;", true)
  | _ => ("RodBench$Offers", "table", "LRodBench$Table;", true)
noncomputable def tyX3 : Nat → FieldType := fun k => match k with
  | 0 => .object "RodBench$Frame"
  | 1 => .object "java/util/List"
  | 2 => .object "java/util/List"
  | _ => .object "RodBench$Table"
noncomputable abbrev wsX30 : List Cond := u_ws RX3 TX3 4
theorem nmX3 : ∀ a, a < 4 → ∀ b, b < 4 → a ≠ b → (TX3 a).2.1 ≠ (TX3 b).2.1 := by decide +kernel
theorem tyX3_ok : ∀ k, k < 4 → parseFieldDescriptor (TX3 k).2.2.1 = some (tyX3 k) := by decide +kernel
noncomputable abbrev cX3_init : ByteArray := prog_5_method_1_code
noncomputable def yX3_init : MethodName := ⟨RX3, "<init>", "(LRodBench$Frame;)V"⟩
noncomputable abbrev cX3_takenRod : ByteArray := prog_5_method_2_code
noncomputable def yX3_takenRod : MethodName := ⟨RX3, "takenRod", "(I)I"⟩
noncomputable abbrev cX3_priceOfAll : ByteArray := prog_5_method_3_code
noncomputable def yX3_priceOfAll : MethodName := ⟨RX3, "priceOfAll", "()I"⟩
noncomputable abbrev cX3_holds : ByteArray := prog_5_method_4_code
noncomputable def yX3_holds : MethodName := ⟨RX3, "holds", "()Z"⟩
noncomputable abbrev cX3_renew : ByteArray := prog_5_method_5_code
noncomputable def yX3_renew : MethodName := ⟨RX3, "renew", "()V"⟩
noncomputable abbrev cX3_queueRodsIn : ByteArray := prog_5_method_6_code
noncomputable def yX3_queueRodsIn : MethodName := ⟨RX3, "queueRodsIn", "()V"⟩
noncomputable abbrev cX3_queueRodsOut : ByteArray := prog_5_method_7_code
noncomputable def yX3_queueRodsOut : MethodName := ⟨RX3, "queueRodsOut", "()V"⟩
noncomputable def RX4 : String := "RodBench$Pin"
noncomputable def TX4 : u_T := fun k => match k with
  | 0 => ("RodBench$Pin", "number", "I", true)
  | 1 => ("RodBench$Pin", "x", "I", false)
  | 2 => ("RodBench$Pin", "y", "I", false)
  | 3 => ("RodBench$Pin", "held", "Z", false)
  | 4 => ("RodBench$Pin", "forceX", "I", false)
  | _ => ("RodBench$Pin", "forceY", "I", false)
noncomputable def tyX4 : Nat → FieldType := fun k => match k with
  | 0 => .int
  | 1 => .int
  | 2 => .int
  | 3 => .boolean
  | 4 => .int
  | _ => .int
noncomputable abbrev wsX40 : List Cond := u_ws RX4 TX4 6
theorem nmX4 : ∀ a, a < 6 → ∀ b, b < 6 → a ≠ b → (TX4 a).2.1 ≠ (TX4 b).2.1 := by decide +kernel
theorem tyX4_ok : ∀ k, k < 6 → parseFieldDescriptor (TX4 k).2.2.1 = some (tyX4 k) := by decide +kernel
noncomputable abbrev cX4_init : ByteArray := prog_6_method_1_code
noncomputable def yX4_init : MethodName := ⟨RX4, "<init>", "(III)V"⟩
noncomputable def RX5 : String := "RodBench$Rod"
noncomputable def TX5 : u_T := fun k => match k with
  | 0 => ("RodBench$Rod", "number", "I", true)
  | 1 => ("RodBench$Rod", "kind", "I", true)
  | 2 => ("RodBench$Rod", "first", "LRodBench$Pin;", true)
  | 3 => ("RodBench$Rod", "second", "LRodBench$Pin;", true)
  | 4 => ("RodBench$Rod", "price", "I", true)
  | _ => ("RodBench$Rod", "in", "Z", false)
noncomputable def tyX5 : Nat → FieldType := fun k => match k with
  | 0 => .int
  | 1 => .int
  | 2 => .object "RodBench$Pin"
  | 3 => .object "RodBench$Pin"
  | 4 => .int
  | _ => .boolean
noncomputable abbrev wsX50 : List Cond := u_ws RX5 TX5 6
theorem nmX5 : ∀ a, a < 6 → ∀ b, b < 6 → a ≠ b → (TX5 a).2.1 ≠ (TX5 b).2.1 := by decide +kernel
theorem tyX5_ok : ∀ k, k < 6 → parseFieldDescriptor (TX5 k).2.2.1 = some (tyX5 k) := by decide +kernel
noncomputable abbrev cX5_init : ByteArray := prog_7_method_1_code
noncomputable def yX5_init : MethodName := ⟨RX5, "<init>", "(IILRodBench$Pin;LRodBench$Pin;I)V"⟩
noncomputable abbrev cX5_isOf : ByteArray := prog_7_method_2_code
noncomputable def yX5_isOf : MethodName := ⟨RX5, "isOf", "(I)Z"⟩
noncomputable abbrev cX5_joins : ByteArray := prog_7_method_3_code
noncomputable def yX5_joins : MethodName := ⟨RX5, "joins", "(LRodBench$Pin;LRodBench$Pin;)Z"⟩
noncomputable abbrev cX5_endsAt : ByteArray := prog_7_method_4_code
noncomputable def yX5_endsAt : MethodName := ⟨RX5, "endsAt", "(LRodBench$Pin;)Z"⟩
noncomputable abbrev cX5_reach : ByteArray := prog_7_method_5_code
noncomputable def yX5_reach : MethodName := ⟨RX5, "reach", "(LRodBench$Pin;I)I"⟩
noncomputable def RX6 : String := "RodBench$Row"
noncomputable def TX6 : u_T := fun k => match k with
  | 0 => ("RodBench$Row", "sort", "I", true)
  | _ => ("RodBench$Row", "numbers", "[J", true)
noncomputable def tyX6 : Nat → FieldType := fun k => match k with
  | 0 => .int
  | _ => .array .long
noncomputable abbrev wsX60 : List Cond := u_ws RX6 TX6 2
theorem nmX6 : ∀ a, a < 2 → ∀ b, b < 2 → a ≠ b → (TX6 a).2.1 ≠ (TX6 b).2.1 := by decide +kernel
theorem tyX6_ok : ∀ k, k < 2 → parseFieldDescriptor (TX6 k).2.2.1 = some (tyX6 k) := by decide +kernel
noncomputable abbrev cX6_init : ByteArray := prog_8_method_1_code
noncomputable def yX6_init : MethodName := ⟨RX6, "<init>", "(II)V"⟩
noncomputable def RX7 : String := "RodBench$Table"
noncomputable def TX7 : u_T := fun k => match k with
  | 0 => ("RodBench$Table", "cells", "[[J", true)
  | 1 => ("RodBench$Table", "taken", "[Z", true)
  | 2 => ("RodBench$Table", "rowOf", "[I", true)
  | 3 => ("RodBench$Table", "loose", "[I", true)
  | 4 => ("RodBench$Table", "scales", "[J", true)
  | 5 => ("RodBench$Table", "rows", "I", false)
  | 6 => ("RodBench$Table", "columns", "I", false)
  | _ => ("RodBench$Table", "looseCount", "I", false)
noncomputable def tyX7 : Nat → FieldType := fun k => match k with
  | 0 => .array (.array .long)
  | 1 => .array .boolean
  | 2 => .array .int
  | 3 => .array .int
  | 4 => .array .long
  | 5 => .int
  | 6 => .int
  | _ => .int
noncomputable abbrev wsX70 : List Cond := u_ws RX7 TX7 8
theorem nmX7 : ∀ a, a < 8 → ∀ b, b < 8 → a ≠ b → (TX7 a).2.1 ≠ (TX7 b).2.1 := by decide +kernel
theorem tyX7_ok : ∀ k, k < 8 → parseFieldDescriptor (TX7 k).2.2.1 = some (tyX7 k) := by decide +kernel
noncomputable abbrev cX7_init : ByteArray := prog_9_method_1_code
noncomputable def yX7_init : MethodName := ⟨RX7, "<init>", "()V"⟩
noncomputable abbrev cX7_layRodsAsRows : ByteArray := prog_9_method_2_code
noncomputable def yX7_layRodsAsRows : MethodName := ⟨RX7, "layRodsAsRows", "(Ljava/util/List;Ljava/util/List;)V"⟩
noncomputable abbrev cX7_layRodsAsColumns : ByteArray := prog_9_method_3_code
noncomputable def yX7_layRodsAsColumns : MethodName := ⟨RX7, "layRodsAsColumns", "(Ljava/util/List;Ljava/util/List;)V"⟩
noncomputable abbrev cX7_reduce : ByteArray := prog_9_method_4_code
noncomputable def yX7_reduce : MethodName := ⟨RX7, "reduce", "()V"⟩
noncomputable abbrev cX7_looseColumns : ByteArray := prog_9_method_5_code
noncomputable def yX7_looseColumns : MethodName := ⟨RX7, "looseColumns", "()I"⟩
noncomputable abbrev cX7_rank : ByteArray := prog_9_method_6_code
noncomputable def yX7_rank : MethodName := ⟨RX7, "rank", "()I"⟩
noncomputable abbrev cX7_isLoose : ByteArray := prog_9_method_7_code
noncomputable def yX7_isLoose : MethodName := ⟨RX7, "isLoose", "(I)Z"⟩
noncomputable abbrev cX7_answer : ByteArray := prog_9_method_8_code
noncomputable def yX7_answer : MethodName := ⟨RX7, "answer", "(II)J"⟩
noncomputable abbrev cX7_hasSolution : ByteArray := prog_9_method_9_code
noncomputable def yX7_hasSolution : MethodName := ⟨RX7, "hasSolution", "()Z"⟩
noncomputable abbrev cX7_solutionAbove : ByteArray := prog_9_method_10_code
noncomputable def yX7_solutionAbove : MethodName := ⟨RX7, "solutionAbove", "(I)J"⟩
noncomputable abbrev cX7_solutionBelow : ByteArray := prog_9_method_11_code
noncomputable def yX7_solutionBelow : MethodName := ⟨RX7, "solutionBelow", "(I)J"⟩
noncomputable abbrev cX7_start : ByteArray := prog_9_method_12_code
noncomputable def yX7_start : MethodName := ⟨RX7, "start", "(II)V"⟩
noncomputable abbrev cX7_openRow : ByteArray := prog_9_method_13_code
noncomputable def yX7_openRow : MethodName := ⟨RX7, "openRow", "(I)I"⟩
noncomputable abbrev cX7_makeAboveNought : ByteArray := prog_9_method_14_code
noncomputable def yX7_makeAboveNought : MethodName := ⟨RX7, "makeAboveNought", "([JI)V"⟩
noncomputable abbrev cX7_clearColumn : ByteArray := prog_9_method_15_code
noncomputable def yX7_clearColumn : MethodName := ⟨RX7, "clearColumn", "(II)V"⟩
noncomputable abbrev cX7_takeOff : ByteArray := prog_9_method_16_code
noncomputable def yX7_takeOff : MethodName := ⟨RX7, "takeOff", "([J[JI)V"⟩
noncomputable abbrev cX7_shrink : ByteArray := prog_9_method_17_code
noncomputable def yX7_shrink : MethodName := ⟨RX7, "shrink", "([J)V"⟩
noncomputable abbrev cX7_scaleOf : ByteArray := prog_9_method_18_code
noncomputable def yX7_scaleOf : MethodName := ⟨RX7, "scaleOf", "(I)J"⟩
noncomputable abbrev cX7_lowestBelow : ByteArray := prog_9_method_19_code
noncomputable def yX7_lowestBelow : MethodName := ⟨RX7, "lowestBelow", "(JJ)J"⟩
noncomputable abbrev cX7_leastMultiple : ByteArray := prog_9_method_20_code
noncomputable def yX7_leastMultiple : MethodName := ⟨RX7, "leastMultiple", "(JJ)J"⟩
noncomputable abbrev cX7_commonDivisor : ByteArray := prog_9_method_21_code
noncomputable def yX7_commonDivisor : MethodName := ⟨RX7, "commonDivisor", "(JJ)J"⟩
noncomputable def RX8 : String := "RodBench$Thing"
noncomputable def TX8 : u_T := fun k => match k with
  | _ => ("", "", "", false)
noncomputable def tyX8 : Nat → FieldType := fun k => match k with
  | _ => .int
noncomputable abbrev wsX80 : List Cond := u_ws RX8 TX8 0
theorem nmX8 : ∀ a, a < 0 → ∀ b, b < 0 → a ≠ b → (TX8 a).2.1 ≠ (TX8 b).2.1 := by decide +kernel
theorem tyX8_ok : ∀ k, k < 0 → parseFieldDescriptor (TX8 k).2.2.1 = some (tyX8 k) := by decide +kernel
noncomputable def RX9 : String := "RodBench$Trays"
noncomputable def TX9 : u_T := fun k => match k with
  | 0 => ("RodBench$Trays", "frame", "LRodBench$Frame;", true)
  | 1 => ("RodBench$Trays", "balance", "LRodBench$Balance;", true)
  | 2 => ("RodBench$Trays", "things", "[LRodBench$Thing;", true)
  | _ => ("RodBench$Trays", "status", "I", false)
noncomputable def tyX9 : Nat → FieldType := fun k => match k with
  | 0 => .object "RodBench$Frame"
  | 1 => .object "RodBench$Balance"
  | 2 => .array (.object "RodBench$Thing")
  | _ => .int
noncomputable abbrev wsX90 : List Cond := u_ws RX9 TX9 4
theorem nmX9 : ∀ a, a < 4 → ∀ b, b < 4 → a ≠ b → (TX9 a).2.1 ≠ (TX9 b).2.1 := by decide +kernel
theorem tyX9_ok : ∀ k, k < 4 → parseFieldDescriptor (TX9 k).2.2.1 = some (tyX9 k) := by decide +kernel
noncomputable abbrev cX9_init : ByteArray := prog_11_method_1_code
noncomputable def yX9_init : MethodName := ⟨RX9, "<init>", "(LRodBench$Frame;LRodBench$Balance;)V"⟩
noncomputable abbrev cX9_latestStatus : ByteArray := prog_11_method_2_code
noncomputable def yX9_latestStatus : MethodName := ⟨RX9, "latestStatus", "()I"⟩
noncomputable abbrev cX9_fill : ByteArray := prog_11_method_3_code
noncomputable def yX9_fill : MethodName := ⟨RX9, "fill", "(III)I"⟩
noncomputable abbrev cX9_work : ByteArray := prog_11_method_4_code
noncomputable def yX9_work : MethodName := ⟨RX9, "work", "(III)I"⟩
noncomputable abbrev cX9_isTray : ByteArray := prog_11_method_5_code
noncomputable def yX9_isTray : MethodName := ⟨RX9, "isTray", "(I)Z"⟩
noncomputable abbrev cX9_isThing : ByteArray := prog_11_method_6_code
noncomputable def yX9_isThing : MethodName := ⟨RX9, "isThing", "(II)Z"⟩
noncomputable abbrev cX9_thingFor : ByteArray := prog_11_method_7_code
noncomputable def yX9_thingFor : MethodName := ⟨RX9, "thingFor", "(II)LRodBench$Thing;"⟩
noncomputable abbrev cX9_motionRow : ByteArray := prog_11_method_8_code
noncomputable def yX9_motionRow : MethodName := ⟨RX9, "motionRow", "(I)LRodBench$Row;"⟩
noncomputable abbrev cX9_rodRow : ByteArray := prog_11_method_9_code
noncomputable def yX9_rodRow : MethodName := ⟨RX9, "rodRow", "(I)LRodBench$Row;"⟩
noncomputable abbrev cX9_firstPinAs : ByteArray := prog_11_method_10_code
noncomputable def yX9_firstPinAs : MethodName := ⟨RX9, "firstPinAs", "(LRodBench$Thing;I)I"⟩
noncomputable abbrev cX9_howManyAre : ByteArray := prog_11_method_11_code
noncomputable def yX9_howManyAre : MethodName := ⟨RX9, "howManyAre", "(LRodBench$Thing;I)I"⟩
noncomputable abbrev cX9_numberAt : ByteArray := prog_11_method_12_code
noncomputable def yX9_numberAt : MethodName := ⟨RX9, "numberAt", "(LRodBench$Thing;II)I"⟩
noncomputable abbrev cX9_sumOfCopied : ByteArray := prog_11_method_13_code
noncomputable def yX9_sumOfCopied : MethodName := ⟨RX9, "sumOfCopied", "(LRodBench$Thing;I)I"⟩
noncomputable abbrev cX9_priceAsSpare : ByteArray := prog_11_method_14_code
noncomputable def yX9_priceAsSpare : MethodName := ⟨RX9, "priceAsSpare", "(LRodBench$Thing;)I"⟩
noncomputable abbrev cX9_rowOf : ByteArray := prog_11_method_15_code
noncomputable def yX9_rowOf : MethodName := ⟨RX9, "rowOf", "(LRodBench$Thing;I)LRodBench$Row;"⟩
noncomputable abbrev cX9_refuseRow : ByteArray := prog_11_method_16_code
noncomputable def yX9_refuseRow : MethodName := ⟨RX9, "refuseRow", "(LRodBench$Thing;)I"⟩
noncomputable abbrev cX9_done : ByteArray := prog_11_method_17_code
noncomputable def yX9_done : MethodName := ⟨RX9, "done", "(I)I"⟩
noncomputable abbrev cX9_refuse : ByteArray := prog_11_method_18_code
noncomputable def yX9_refuse : MethodName := ⟨RX9, "refuse", "(I)I"⟩
noncomputable def RX10 : String := "RodBench"
noncomputable def TX10 : u_T := fun k => match k with
  | 0 => ("RodBench", "frame", "LRodBench$Frame;", true)
  | 1 => ("RodBench", "balance", "LRodBench$Balance;", true)
  | 2 => ("RodBench", "offers", "LRodBench$Offers;", true)
  | 3 => ("RodBench", "bodies", "LRodBench$Bodies;", true)
  | _ => ("RodBench", "trays", "LRodBench$Trays;", true)
noncomputable def tyX10 : Nat → FieldType := fun k => match k with
  | 0 => .object "RodBench$Frame"
  | 1 => .object "RodBench$Balance"
  | 2 => .object "RodBench$Offers"
  | 3 => .object "RodBench$Bodies"
  | _ => .object "RodBench$Trays"
noncomputable abbrev wsX100 : List Cond := u_ws RX10 TX10 5
theorem nmX10 : ∀ a, a < 5 → ∀ b, b < 5 → a ≠ b → (TX10 a).2.1 ≠ (TX10 b).2.1 := by decide +kernel
theorem tyX10_ok : ∀ k, k < 5 → parseFieldDescriptor (TX10 k).2.2.1 = some (tyX10 k) := by decide +kernel
noncomputable abbrev cX10_init : ByteArray := prog_1_method_1_code
noncomputable def yX10_init : MethodName := ⟨RX10, "<init>", "()V"⟩
noncomputable abbrev cX10_pin : ByteArray := prog_1_method_2_code
noncomputable def yX10_pin : MethodName := ⟨RX10, "pin", "(II)I"⟩
noncomputable abbrev cX10_move : ByteArray := prog_1_method_3_code
noncomputable def yX10_move : MethodName := ⟨RX10, "move", "(III)I"⟩
noncomputable abbrev cX10_hold : ByteArray := prog_1_method_4_code
noncomputable def yX10_hold : MethodName := ⟨RX10, "hold", "(IZ)I"⟩
noncomputable abbrev cX10_rod : ByteArray := prog_1_method_5_code
noncomputable def yX10_rod : MethodName := ⟨RX10, "rod", "(IIII)I"⟩
noncomputable abbrev cX10_put : ByteArray := prog_1_method_6_code
noncomputable def yX10_put : MethodName := ⟨RX10, "put", "(IZ)I"⟩
noncomputable abbrev cX10_count : ByteArray := prog_1_method_7_code
noncomputable def yX10_count : MethodName := ⟨RX10, "count", "(I)I"⟩
noncomputable abbrev cX10_pinTold : ByteArray := prog_1_method_8_code
noncomputable def yX10_pinTold : MethodName := ⟨RX10, "pinTold", "(II)I"⟩
noncomputable abbrev cX10_rodTold : ByteArray := prog_1_method_9_code
noncomputable def yX10_rodTold : MethodName := ⟨RX10, "rodTold", "(II)I"⟩
noncomputable abbrev cX10_motion : ByteArray := prog_1_method_10_code
noncomputable def yX10_motion : MethodName := ⟨RX10, "motion", "(III)J"⟩
noncomputable abbrev cX10_stress : ByteArray := prog_1_method_11_code
noncomputable def yX10_stress : MethodName := ⟨RX10, "stress", "(II)J"⟩
noncomputable abbrev cX10_stiff : ByteArray := prog_1_method_12_code
noncomputable def yX10_stiff : MethodName := ⟨RX10, "stiff", "()I"⟩
noncomputable abbrev cX10_tight : ByteArray := prog_1_method_13_code
noncomputable def yX10_tight : MethodName := ⟨RX10, "tight", "()I"⟩
noncomputable abbrev cX10_load : ByteArray := prog_1_method_14_code
noncomputable def yX10_load : MethodName := ⟨RX10, "load", "(III)I"⟩
noncomputable abbrev cX10_carry : ByteArray := prog_1_method_15_code
noncomputable def yX10_carry : MethodName := ⟨RX10, "carry", "()I"⟩
noncomputable abbrev cX10_force : ByteArray := prog_1_method_16_code
noncomputable def yX10_force : MethodName := ⟨RX10, "force", "(II)J"⟩
noncomputable abbrev cX10_gives : ByteArray := prog_1_method_17_code
noncomputable def yX10_gives : MethodName := ⟨RX10, "gives", "()I"⟩
noncomputable abbrev cX10_could : ByteArray := prog_1_method_18_code
noncomputable def yX10_could : MethodName := ⟨RX10, "could", "()I"⟩
noncomputable abbrev cX10_body : ByteArray := prog_1_method_19_code
noncomputable def yX10_body : MethodName := ⟨RX10, "body", "(II)I"⟩
noncomputable abbrev cX10_plan : ByteArray := prog_1_method_20_code
noncomputable def yX10_plan : MethodName := ⟨RX10, "plan", "(I)I"⟩
noncomputable abbrev cX10_cheapest : ByteArray := prog_1_method_21_code
noncomputable def yX10_cheapest : MethodName := ⟨RX10, "cheapest", "()I"⟩
noncomputable abbrev cX10_tray : ByteArray := prog_1_method_22_code
noncomputable def yX10_tray : MethodName := ⟨RX10, "tray", "(III)I"⟩
noncomputable abbrev cX10_forge : ByteArray := prog_1_method_23_code
noncomputable def yX10_forge : MethodName := ⟨RX10, "forge", "(III)I"⟩
noncomputable abbrev cX10_status : ByteArray := prog_1_method_24_code
noncomputable def yX10_status : MethodName := ⟨RX10, "status", "()I"⟩
noncomputable abbrev cX10_isPlace : ByteArray := prog_1_method_25_code
noncomputable def yX10_isPlace : MethodName := ⟨RX10, "isPlace", "(II)Z"⟩
noncomputable abbrev cX10_isForce : ByteArray := prog_1_method_26_code
noncomputable def yX10_isForce : MethodName := ⟨RX10, "isForce", "(I)Z"⟩
noncomputable abbrev cX10_isPriceOf : ByteArray := prog_1_method_27_code
noncomputable def yX10_isPriceOf : MethodName := ⟨RX10, "isPriceOf", "(II)Z"⟩
noncomputable abbrev cX10_renew : ByteArray := prog_1_method_28_code
noncomputable def yX10_renew : MethodName := ⟨RX10, "renew", "()V"⟩
noncomputable abbrev cX10_neededCount : ByteArray := prog_1_method_29_code
noncomputable def yX10_neededCount : MethodName := ⟨RX10, "neededCount", "()I"⟩
noncomputable abbrev cX10_isTightAs : ByteArray := prog_1_method_30_code
noncomputable def yX10_isTightAs : MethodName := ⟨RX10, "isTightAs", "(I)Z"⟩
noncomputable def RX11 : String := "RodBenchModel"
noncomputable def TX11 : u_T := fun k => match k with
  | 0 => ("RodBenchModel", "pins", "I", false)
  | 1 => ("RodBenchModel", "rods", "I", false)
  | 2 => ("RodBenchModel", "px", "[I", true)
  | 3 => ("RodBenchModel", "py", "[I", true)
  | 4 => ("RodBenchModel", "fx", "[I", true)
  | 5 => ("RodBenchModel", "fy", "[I", true)
  | 6 => ("RodBenchModel", "held", "[Z", true)
  | 7 => ("RodBenchModel", "rKind", "[I", true)
  | 8 => ("RodBenchModel", "rA", "[I", true)
  | 9 => ("RodBenchModel", "rB", "[I", true)
  | 10 => ("RodBenchModel", "rPrice", "[I", true)
  | 11 => ("RodBenchModel", "isIn", "[Z", true)
  | 12 => ("RodBenchModel", "m", "[J", true)
  | 13 => ("RodBenchModel", "rows", "I", false)
  | 14 => ("RodBenchModel", "columns", "I", false)
  | 15 => ("RodBenchModel", "rowOf", "[I", true)
  | 16 => ("RodBenchModel", "nul", "[J", true)
  | 17 => ("RodBenchModel", "columnRod", "[I", true)
  | 18 => ("RodBenchModel", "bodies", "I", false)
  | 19 => ("RodBenchModel", "body", "[I", true)
  | 20 => ("RodBenchModel", "taken", "[Z", true)
  | 21 => ("RodBenchModel", "tried", "[Z", true)
  | 22 => ("RodBenchModel", "chosen", "[Z", true)
  | 23 => ("RodBenchModel", "planN", "I", false)
  | 24 => ("RodBenchModel", "plan", "[I", true)
  | 25 => ("RodBenchModel", "tray", "[I", true)
  | 26 => ("RodBenchModel", "trayN", "[I", true)
  | 27 => ("RodBenchModel", "trayKind", "[I", true)
  | 28 => ("RodBenchModel", "trayFirst", "[I", true)
  | 29 => ("RodBenchModel", "cell", "[J", true)
  | 30 => ("RodBenchModel", "status", "I", false)
  | _ => ("RodBenchModel", "trayOrder", "[I", true)
noncomputable def tyX11 : Nat → FieldType := fun k => match k with
  | 0 => .int
  | 1 => .int
  | 2 => .array .int
  | 3 => .array .int
  | 4 => .array .int
  | 5 => .array .int
  | 6 => .array .boolean
  | 7 => .array .int
  | 8 => .array .int
  | 9 => .array .int
  | 10 => .array .int
  | 11 => .array .boolean
  | 12 => .array .long
  | 13 => .int
  | 14 => .int
  | 15 => .array .int
  | 16 => .array .long
  | 17 => .array .int
  | 18 => .int
  | 19 => .array .int
  | 20 => .array .boolean
  | 21 => .array .boolean
  | 22 => .array .boolean
  | 23 => .int
  | 24 => .array .int
  | 25 => .array .int
  | 26 => .array .int
  | 27 => .array .int
  | 28 => .array .int
  | 29 => .array .long
  | 30 => .int
  | _ => .array .int
noncomputable abbrev wsX110 : List Cond := u_ws RX11 TX11 32
theorem nmX11 : ∀ a, a < 32 → ∀ b, b < 32 → a ≠ b → (TX11 a).2.1 ≠ (TX11 b).2.1 := by decide +kernel
theorem tyX11_ok : ∀ k, k < 32 → parseFieldDescriptor (TX11 k).2.2.1 = some (tyX11 k) := by decide +kernel
noncomputable abbrev cX11_init : ByteArray := prog_13_method_1_code
noncomputable def yX11_init : MethodName := ⟨RX11, "<init>", "()V"⟩
noncomputable abbrev cX11_isPin : ByteArray := prog_13_method_2_code
noncomputable def yX11_isPin : MethodName := ⟨RX11, "isPin", "(I)Z"⟩
noncomputable abbrev cX11_isRod : ByteArray := prog_13_method_3_code
noncomputable def yX11_isRod : MethodName := ⟨RX11, "isRod", "(I)Z"⟩
noncomputable abbrev cX11_isPlace : ByteArray := prog_13_method_4_code
noncomputable def yX11_isPlace : MethodName := ⟨RX11, "isPlace", "(I)Z"⟩
noncomputable abbrev cX11_pinAt : ByteArray := prog_13_method_5_code
noncomputable def yX11_pinAt : MethodName := ⟨RX11, "pinAt", "(II)I"⟩
noncomputable abbrev cX11_gcd : ByteArray := prog_13_method_6_code
noncomputable def yX11_gcd : MethodName := ⟨RX11, "gcd", "(JJ)J"⟩
noncomputable abbrev cX11_lower : ByteArray := prog_13_method_7_code
noncomputable def yX11_lower : MethodName := ⟨RX11, "lower", "(II)V"⟩
noncomputable abbrev cX11_steps : ByteArray := prog_13_method_8_code
noncomputable def yX11_steps : MethodName := ⟨RX11, "steps", "(I)I"⟩
noncomputable abbrev cX11_loose : ByteArray := prog_13_method_9_code
noncomputable def yX11_loose : MethodName := ⟨RX11, "loose", "(I)I"⟩
noncomputable abbrev cX11_nulOf : ByteArray := prog_13_method_10_code
noncomputable def yX11_nulOf : MethodName := ⟨RX11, "nulOf", "(I)V"⟩
noncomputable abbrev cX11_freeColumn : ByteArray := prog_13_method_11_code
noncomputable def yX11_freeColumn : MethodName := ⟨RX11, "freeColumn", "(I)I"⟩
noncomputable abbrev cX11_freePins : ByteArray := prog_13_method_12_code
noncomputable def yX11_freePins : MethodName := ⟨RX11, "freePins", "()I"⟩
noncomputable abbrev cX11_motionRow : ByteArray := prog_13_method_13_code
noncomputable def yX11_motionRow : MethodName := ⟨RX11, "motionRow", "(II)V"⟩
noncomputable abbrev cX11_motionsOf : ByteArray := prog_13_method_14_code
noncomputable def yX11_motionsOf : MethodName := ⟨RX11, "motionsOf", "([Z)I"⟩
noncomputable abbrev cX11_motions : ByteArray := prog_13_method_15_code
noncomputable def yX11_motions : MethodName := ⟨RX11, "motions", "()I"⟩
noncomputable abbrev cX11_planeMotions : ByteArray := prog_13_method_16_code
noncomputable def yX11_planeMotions : MethodName := ⟨RX11, "planeMotions", "()I"⟩
noncomputable abbrev cX11_isStiff : ByteArray := prog_13_method_17_code
noncomputable def yX11_isStiff : MethodName := ⟨RX11, "isStiff", "([Z)Z"⟩
noncomputable abbrev cX11_inCount : ByteArray := prog_13_method_18_code
noncomputable def yX11_inCount : MethodName := ⟨RX11, "inCount", "()I"⟩
noncomputable abbrev cX11_stresses : ByteArray := prog_13_method_19_code
noncomputable def yX11_stresses : MethodName := ⟨RX11, "stresses", "()I"⟩
noncomputable abbrev cX11_columnOf : ByteArray := prog_13_method_20_code
noncomputable def yX11_columnOf : MethodName := ⟨RX11, "columnOf", "(I)I"⟩
noncomputable abbrev cX11_carries : ByteArray := prog_13_method_21_code
noncomputable def yX11_carries : MethodName := ⟨RX11, "carries", "()Z"⟩
noncomputable abbrev cX11_isNeeded : ByteArray := prog_13_method_22_code
noncomputable def yX11_isNeeded : MethodName := ⟨RX11, "isNeeded", "(I)Z"⟩
noncomputable abbrev cX11_size : ByteArray := prog_13_method_23_code
noncomputable def yX11_size : MethodName := ⟨RX11, "size", "(I)I"⟩
noncomputable abbrev cX11_isBetween : ByteArray := prog_13_method_24_code
noncomputable def yX11_isBetween : MethodName := ⟨RX11, "isBetween", "(II)Z"⟩
noncomputable abbrev cX11_even : ByteArray := prog_13_method_25_code
noncomputable def yX11_even : MethodName := ⟨RX11, "even", "(I)I"⟩
noncomputable abbrev cX11_isEven : ByteArray := prog_13_method_26_code
noncomputable def yX11_isEven : MethodName := ⟨RX11, "isEven", "(I)Z"⟩
noncomputable abbrev cX11_isAhead : ByteArray := prog_13_method_27_code
noncomputable def yX11_isAhead : MethodName := ⟨RX11, "isAhead", "(II)Z"⟩
noncomputable abbrev cX11_findBodies : ByteArray := prog_13_method_28_code
noncomputable def yX11_findBodies : MethodName := ⟨RX11, "findBodies", "()V"⟩
noncomputable abbrev cX11_makePlan : ByteArray := prog_13_method_29_code
noncomputable def yX11_makePlan : MethodName := ⟨RX11, "makePlan", "()V"⟩
noncomputable abbrev cX11_cheapestLeft : ByteArray := prog_13_method_30_code
noncomputable def yX11_cheapestLeft : MethodName := ⟨RX11, "cheapestLeft", "()I"⟩
noncomputable abbrev cX11_pin : ByteArray := prog_13_method_31_code
noncomputable def yX11_pin : MethodName := ⟨RX11, "pin", "(II)I"⟩
noncomputable abbrev cX11_move : ByteArray := prog_13_method_32_code
noncomputable def yX11_move : MethodName := ⟨RX11, "move", "(III)I"⟩
noncomputable abbrev cX11_hold : ByteArray := prog_13_method_33_code
noncomputable def yX11_hold : MethodName := ⟨RX11, "hold", "(IZ)I"⟩
noncomputable abbrev cX11_rod : ByteArray := prog_13_method_34_code
noncomputable def yX11_rod : MethodName := ⟨RX11, "rod", "(IIII)I"⟩
noncomputable abbrev cX11_put : ByteArray := prog_13_method_35_code
noncomputable def yX11_put : MethodName := ⟨RX11, "put", "(IZ)I"⟩
noncomputable abbrev cX11_count : ByteArray := prog_13_method_36_code
noncomputable def yX11_count : MethodName := ⟨RX11, "count", "(I)I"⟩
noncomputable abbrev cX11_pinTold : ByteArray := prog_13_method_37_code
noncomputable def yX11_pinTold : MethodName := ⟨RX11, "pinTold", "(II)I"⟩
noncomputable abbrev cX11_rodTold : ByteArray := prog_13_method_38_code
noncomputable def yX11_rodTold : MethodName := ⟨RX11, "rodTold", "(II)I"⟩
noncomputable abbrev cX11_motion : ByteArray := prog_13_method_39_code
noncomputable def yX11_motion : MethodName := ⟨RX11, "motion", "(III)J"⟩
noncomputable abbrev cX11_stress : ByteArray := prog_13_method_40_code
noncomputable def yX11_stress : MethodName := ⟨RX11, "stress", "(II)J"⟩
noncomputable abbrev cX11_stiff : ByteArray := prog_13_method_41_code
noncomputable def yX11_stiff : MethodName := ⟨RX11, "stiff", "()I"⟩
noncomputable abbrev cX11_tight : ByteArray := prog_13_method_42_code
noncomputable def yX11_tight : MethodName := ⟨RX11, "tight", "()I"⟩
noncomputable abbrev cX11_load : ByteArray := prog_13_method_43_code
noncomputable def yX11_load : MethodName := ⟨RX11, "load", "(III)I"⟩
noncomputable abbrev cX11_carry : ByteArray := prog_13_method_44_code
noncomputable def yX11_carry : MethodName := ⟨RX11, "carry", "()I"⟩
noncomputable abbrev cX11_force : ByteArray := prog_13_method_45_code
noncomputable def yX11_force : MethodName := ⟨RX11, "force", "(II)J"⟩
noncomputable abbrev cX11_gives : ByteArray := prog_13_method_46_code
noncomputable def yX11_gives : MethodName := ⟨RX11, "gives", "()I"⟩
noncomputable abbrev cX11_could : ByteArray := prog_13_method_47_code
noncomputable def yX11_could : MethodName := ⟨RX11, "could", "()I"⟩
noncomputable abbrev cX11_body : ByteArray := prog_13_method_48_code
noncomputable def yX11_body : MethodName := ⟨RX11, "body", "(II)I"⟩
noncomputable abbrev cX11_plan : ByteArray := prog_13_method_49_code
noncomputable def yX11_plan : MethodName := ⟨RX11, "plan", "(I)I"⟩
noncomputable abbrev cX11_cheapest : ByteArray := prog_13_method_50_code
noncomputable def yX11_cheapest : MethodName := ⟨RX11, "cheapest", "()I"⟩
noncomputable abbrev cX11_refused : ByteArray := prog_13_method_51_code
noncomputable def yX11_refused : MethodName := ⟨RX11, "refused", "(I)I"⟩
noncomputable abbrev cX11_done : ByteArray := prog_13_method_52_code
noncomputable def yX11_done : MethodName := ⟨RX11, "done", "(I)I"⟩
noncomputable abbrev cX11_tray : ByteArray := prog_13_method_53_code
noncomputable def yX11_tray : MethodName := ⟨RX11, "tray", "(III)I"⟩
noncomputable abbrev cX11_forge : ByteArray := prog_13_method_54_code
noncomputable def yX11_forge : MethodName := ⟨RX11, "forge", "(III)I"⟩
noncomputable abbrev cX11_status : ByteArray := prog_13_method_55_code
noncomputable def yX11_status : MethodName := ⟨RX11, "status", "()I"⟩
noncomputable def RJx145de : String := "java/io/Serializable"
noncomputable def TJx145de : u_T := fun k => match k with
  | _ => ("", "", "", false)
noncomputable def tyJx145de : Nat → FieldType := fun k => match k with
  | _ => .int
noncomputable abbrev wsJx145de0 : List Cond := u_ws RJx145de TJx145de 0
theorem nmJx145de : ∀ a, a < 0 → ∀ b, b < 0 → a ≠ b → (TJx145de a).2.1 ≠ (TJx145de b).2.1 := by decide +kernel
theorem tyJx145de_ok : ∀ k, k < 0 → parseFieldDescriptor (TJx145de k).2.2.1 = some (tyJx145de k) := by decide +kernel
noncomputable def RJx8e188 : String := "java/lang/Cloneable"
noncomputable def TJx8e188 : u_T := fun k => match k with
  | _ => ("", "", "", false)
noncomputable def tyJx8e188 : Nat → FieldType := fun k => match k with
  | _ => .int
noncomputable abbrev wsJx8e1880 : List Cond := u_ws RJx8e188 TJx8e188 0
theorem nmJx8e188 : ∀ a, a < 0 → ∀ b, b < 0 → a ≠ b → (TJx8e188 a).2.1 ≠ (TJx8e188 b).2.1 := by decide +kernel
theorem tyJx8e188_ok : ∀ k, k < 0 → parseFieldDescriptor (TJx8e188 k).2.2.1 = some (tyJx8e188 k) := by decide +kernel
noncomputable def RJ6 : String := "java/lang/Integer"
noncomputable def TJ6 : u_T := fun k => match k with
  | _ => ("", "", "", false)
noncomputable def tyJ6 : Nat → FieldType := fun k => match k with
  | _ => .int
noncomputable abbrev wsJ60 : List Cond := u_ws RJ6 TJ6 0
theorem nmJ6 : ∀ a, a < 0 → ∀ b, b < 0 → a ≠ b → (TJ6 a).2.1 ≠ (TJ6 b).2.1 := by decide +kernel
theorem tyJ6_ok : ∀ k, k < 0 → parseFieldDescriptor (TJ6 k).2.2.1 = some (tyJ6 k) := by decide +kernel
noncomputable abbrev cJ6_bitCount_0f7a4 : ByteArray := prog_16_method_49_code
noncomputable def yJ6_bitCount_0f7a4 : MethodName := ⟨RJ6, "bitCount", "(I)I"⟩
noncomputable def RJxab1ab : String := "java/lang/Iterable"
noncomputable def TJxab1ab : u_T := fun k => match k with
  | _ => ("", "", "", false)
noncomputable def tyJxab1ab : Nat → FieldType := fun k => match k with
  | _ => .int
noncomputable abbrev wsJxab1ab0 : List Cond := u_ws RJxab1ab TJxab1ab 0
theorem nmJxab1ab : ∀ a, a < 0 → ∀ b, b < 0 → a ≠ b → (TJxab1ab a).2.1 ≠ (TJxab1ab b).2.1 := by decide +kernel
theorem tyJxab1ab_ok : ∀ k, k < 0 → parseFieldDescriptor (TJxab1ab k).2.2.1 = some (tyJxab1ab k) := by decide +kernel
noncomputable def RJ9 : String := "java/lang/Math"
noncomputable def TJ9 : u_T := fun k => match k with
  | _ => ("", "", "", false)
noncomputable def tyJ9 : Nat → FieldType := fun k => match k with
  | _ => .int
noncomputable abbrev wsJ90 : List Cond := u_ws RJ9 TJ9 0
theorem nmJ9 : ∀ a, a < 0 → ∀ b, b < 0 → a ≠ b → (TJ9 a).2.1 ≠ (TJ9 b).2.1 := by decide +kernel
theorem tyJ9_ok : ∀ k, k < 0 → parseFieldDescriptor (TJ9 k).2.2.1 = some (tyJ9 k) := by decide +kernel
noncomputable abbrev cJ9_floorMod_7cf53 : ByteArray := prog_18_method_50_code
noncomputable def yJ9_floorMod_7cf53 : MethodName := ⟨RJ9, "floorMod", "(II)I"⟩
noncomputable abbrev cJ9_abs_067f4 : ByteArray := prog_18_method_61_code
noncomputable def yJ9_abs_067f4 : MethodName := ⟨RJ9, "abs", "(J)J"⟩
noncomputable abbrev cJ9_max_7cf53 : ByteArray := prog_18_method_65_code
noncomputable def yJ9_max_7cf53 : MethodName := ⟨RJ9, "max", "(II)I"⟩
noncomputable abbrev cJ9_min_7cf53 : ByteArray := prog_18_method_69_code
noncomputable def yJ9_min_7cf53 : MethodName := ⟨RJ9, "min", "(II)I"⟩
noncomputable def RJ10 : String := "java/lang/System"
noncomputable def TJ10 : u_T := fun k => match k with
  | _ => ("", "", "", false)
noncomputable def tyJ10 : Nat → FieldType := fun k => match k with
  | _ => .int
noncomputable abbrev wsJ100 : List Cond := u_ws RJ10 TJ10 0
theorem nmJ10 : ∀ a, a < 0 → ∀ b, b < 0 → a ≠ b → (TJ10 a).2.1 ≠ (TJ10 b).2.1 := by decide +kernel
theorem tyJ10_ok : ∀ k, k < 0 → parseFieldDescriptor (TJ10 k).2.2.1 = some (tyJ10 k) := by decide +kernel
noncomputable def RJxa1e45 : String := "java/util/AbstractCollection"
noncomputable def TJxa1e45 : u_T := fun k => match k with
  | _ => ("", "", "", false)
noncomputable def tyJxa1e45 : Nat → FieldType := fun k => match k with
  | _ => .int
noncomputable abbrev wsJxa1e450 : List Cond := u_ws RJxa1e45 TJxa1e45 0
theorem nmJxa1e45 : ∀ a, a < 0 → ∀ b, b < 0 → a ≠ b → (TJxa1e45 a).2.1 ≠ (TJxa1e45 b).2.1 := by decide +kernel
theorem tyJxa1e45_ok : ∀ k, k < 0 → parseFieldDescriptor (TJxa1e45 k).2.2.1 = some (tyJxa1e45 k) := by decide +kernel
noncomputable abbrev cJxa1e45_init_da8c8 : ByteArray := prog_20_method_1_code
noncomputable def yJxa1e45_init_da8c8 : MethodName := ⟨RJxa1e45, "<init>", "()V"⟩
noncomputable def RJxc12de : String := "java/util/AbstractList"
noncomputable def TJxc12de : u_T := fun k => match k with
  | _ => ("", "", "", false)
noncomputable def tyJxc12de : Nat → FieldType := fun k => match k with
  | _ => .int
noncomputable abbrev wsJxc12de0 : List Cond := u_ws RJxc12de TJxc12de 0
theorem nmJxc12de : ∀ a, a < 0 → ∀ b, b < 0 → a ≠ b → (TJxc12de a).2.1 ≠ (TJxc12de b).2.1 := by decide +kernel
theorem tyJxc12de_ok : ∀ k, k < 0 → parseFieldDescriptor (TJxc12de k).2.2.1 = some (tyJxc12de k) := by decide +kernel
noncomputable abbrev cJxc12de_init_da8c8 : ByteArray := prog_21_method_1_code
noncomputable def yJxc12de_init_da8c8 : MethodName := ⟨RJxc12de, "<init>", "()V"⟩
noncomputable def RJx4a65c : String := "java/util/ArrayList"
noncomputable def TJx4a65c : u_T := fun k => match k with
  | 0 => ("java/util/AbstractList", "modCount", "I", false)
  | 1 => ("java/util/ArrayList", "elementData", "[Ljava/lang/Object;", false)
  | _ => ("java/util/ArrayList", "size", "I", false)
noncomputable def tyJx4a65c : Nat → FieldType := fun k => match k with
  | 0 => .int
  | 1 => .array (.object "java/lang/Object")
  | _ => .int
noncomputable abbrev wsJx4a65c0 : List Cond := u_ws RJx4a65c TJx4a65c 3
theorem nmJx4a65c : ∀ a, a < 3 → ∀ b, b < 3 → a ≠ b → (TJx4a65c a).2.1 ≠ (TJx4a65c b).2.1 := by decide +kernel
theorem tyJx4a65c_ok : ∀ k, k < 3 → parseFieldDescriptor (TJx4a65c k).2.2.1 = some (tyJx4a65c k) := by decide +kernel
noncomputable abbrev cJx4a65c_init_da8c8 : ByteArray := prog_22_method_2_code
noncomputable def yJx4a65c_init_da8c8 : MethodName := ⟨RJx4a65c, "<init>", "()V"⟩
noncomputable abbrev cJx4a65c_grow_92f84 : ByteArray := prog_22_method_6_code
noncomputable def yJx4a65c_grow_92f84 : MethodName := ⟨RJx4a65c, "grow", "(I)[Ljava/lang/Object;"⟩
noncomputable abbrev cJx4a65c_grow_d5877 : ByteArray := prog_22_method_7_code
noncomputable def yJx4a65c_grow_d5877 : MethodName := ⟨RJx4a65c, "grow", "()[Ljava/lang/Object;"⟩
noncomputable abbrev cJx4a65c_size_8abf5 : ByteArray := prog_22_method_8_code
noncomputable def yJx4a65c_size_8abf5 : MethodName := ⟨RJx4a65c, "size", "()I"⟩
noncomputable abbrev cJx4a65c_elementData_915e3 : ByteArray := prog_22_method_18_code
noncomputable def yJx4a65c_elementData_915e3 : MethodName := ⟨RJx4a65c, "elementData", "(I)Ljava/lang/Object;"⟩
noncomputable abbrev cJx4a65c_get_915e3 : ByteArray := prog_22_method_20_code
noncomputable def yJx4a65c_get_915e3 : MethodName := ⟨RJx4a65c, "get", "(I)Ljava/lang/Object;"⟩
noncomputable abbrev cJx4a65c_add_72be8 : ByteArray := prog_22_method_24_code
noncomputable def yJx4a65c_add_72be8 : MethodName := ⟨RJx4a65c, "add", "(Ljava/lang/Object;[Ljava/lang/Object;I)V"⟩
noncomputable abbrev cJx4a65c_add_9ea2d : ByteArray := prog_22_method_25_code
noncomputable def yJx4a65c_add_9ea2d : MethodName := ⟨RJx4a65c, "add", "(Ljava/lang/Object;)Z"⟩
noncomputable abbrev cJx4a65c_add_7a177 : ByteArray := prog_22_method_26_code
noncomputable def yJx4a65c_add_7a177 : MethodName := ⟨RJx4a65c, "add", "(ILjava/lang/Object;)V"⟩
noncomputable abbrev cJx4a65c_clear_da8c8 : ByteArray := prog_22_method_40_code
noncomputable def yJx4a65c_clear_da8c8 : MethodName := ⟨RJx4a65c, "clear", "()V"⟩
noncomputable abbrev cJx4a65c_rangeCheckForAdd_d00df : ByteArray := prog_22_method_45_code
noncomputable def yJx4a65c_rangeCheckForAdd_d00df : MethodName := ⟨RJx4a65c, "rangeCheckForAdd", "(I)V"⟩
noncomputable def RJ7 : String := "java/util/Arrays"
noncomputable def TJ7 : u_T := fun k => match k with
  | _ => ("", "", "", false)
noncomputable def tyJ7 : Nat → FieldType := fun k => match k with
  | _ => .int
noncomputable abbrev wsJ70 : List Cond := u_ws RJ7 TJ7 0
theorem nmJ7 : ∀ a, a < 0 → ∀ b, b < 0 → a ≠ b → (TJ7 a).2.1 ≠ (TJ7 b).2.1 := by decide +kernel
theorem tyJ7_ok : ∀ k, k < 0 → parseFieldDescriptor (TJ7 k).2.2.1 = some (tyJ7 k) := by decide +kernel
noncomputable abbrev cJ7_copyOf_1904c : ByteArray := prog_23_method_119_code
noncomputable def yJ7_copyOf_1904c : MethodName := ⟨RJ7, "copyOf", "([Ljava/lang/Object;I)[Ljava/lang/Object;"⟩
noncomputable abbrev cJ7_copyOf_6403c : ByteArray := prog_23_method_120_code
noncomputable def yJ7_copyOf_6403c : MethodName := ⟨RJ7, "copyOf", "([Ljava/lang/Object;ILjava/lang/Class;)[Ljava/lang/Object;"⟩
noncomputable def RJx5ef63 : String := "java/util/Collection"
noncomputable def TJx5ef63 : u_T := fun k => match k with
  | _ => ("", "", "", false)
noncomputable def tyJx5ef63 : Nat → FieldType := fun k => match k with
  | _ => .int
noncomputable abbrev wsJx5ef630 : List Cond := u_ws RJx5ef63 TJx5ef63 0
theorem nmJx5ef63 : ∀ a, a < 0 → ∀ b, b < 0 → a ≠ b → (TJx5ef63 a).2.1 ≠ (TJx5ef63 b).2.1 := by decide +kernel
theorem tyJx5ef63_ok : ∀ k, k < 0 → parseFieldDescriptor (TJx5ef63 k).2.2.1 = some (tyJx5ef63 k) := by decide +kernel
noncomputable def RJxbd725 : String := "java/util/List"
noncomputable def TJxbd725 : u_T := fun k => match k with
  | _ => ("", "", "", false)
noncomputable def tyJxbd725 : Nat → FieldType := fun k => match k with
  | _ => .int
noncomputable abbrev wsJxbd7250 : List Cond := u_ws RJxbd725 TJxbd725 0
theorem nmJxbd725 : ∀ a, a < 0 → ∀ b, b < 0 → a ≠ b → (TJxbd725 a).2.1 ≠ (TJxbd725 b).2.1 := by decide +kernel
theorem tyJxbd725_ok : ∀ k, k < 0 → parseFieldDescriptor (TJxbd725 k).2.2.1 = some (tyJxbd725 k) := by decide +kernel
noncomputable def RJ15 : String := "java/util/Objects"
noncomputable def TJ15 : u_T := fun k => match k with
  | _ => ("", "", "", false)
noncomputable def tyJ15 : Nat → FieldType := fun k => match k with
  | _ => .int
noncomputable abbrev wsJ150 : List Cond := u_ws RJ15 TJ15 0
theorem nmJ15 : ∀ a, a < 0 → ∀ b, b < 0 → a ≠ b → (TJ15 a).2.1 ≠ (TJ15 b).2.1 := by decide +kernel
theorem tyJ15_ok : ∀ k, k < 0 → parseFieldDescriptor (TJ15 k).2.2.1 = some (tyJ15 k) := by decide +kernel
noncomputable abbrev cJ15_checkIndex_7cf53 : ByteArray := prog_26_method_17_code
noncomputable def yJ15_checkIndex_7cf53 : MethodName := ⟨RJ15, "checkIndex", "(II)I"⟩
noncomputable def RJxf0a74 : String := "java/util/RandomAccess"
noncomputable def TJxf0a74 : u_T := fun k => match k with
  | _ => ("", "", "", false)
noncomputable def tyJxf0a74 : Nat → FieldType := fun k => match k with
  | _ => .int
noncomputable abbrev wsJxf0a740 : List Cond := u_ws RJxf0a74 TJxf0a74 0
theorem nmJxf0a74 : ∀ a, a < 0 → ∀ b, b < 0 → a ≠ b → (TJxf0a74 a).2.1 ≠ (TJxf0a74 b).2.1 := by decide +kernel
theorem tyJxf0a74_ok : ∀ k, k < 0 → parseFieldDescriptor (TJxf0a74 k).2.2.1 = some (tyJxf0a74 k) := by decide +kernel
noncomputable def RJxa66e6 : String := "java/util/SequencedCollection"
noncomputable def TJxa66e6 : u_T := fun k => match k with
  | _ => ("", "", "", false)
noncomputable def tyJxa66e6 : Nat → FieldType := fun k => match k with
  | _ => .int
noncomputable abbrev wsJxa66e60 : List Cond := u_ws RJxa66e6 TJxa66e6 0
theorem nmJxa66e6 : ∀ a, a < 0 → ∀ b, b < 0 → a ≠ b → (TJxa66e6 a).2.1 ≠ (TJxa66e6 b).2.1 := by decide +kernel
theorem tyJxa66e6_ok : ∀ k, k < 0 → parseFieldDescriptor (TJxa66e6 k).2.2.1 = some (tyJxa66e6 k) := by decide +kernel
noncomputable def RJ8 : String := "jdk/internal/util/ArraysSupport"
noncomputable def TJ8 : u_T := fun k => match k with
  | _ => ("", "", "", false)
noncomputable def tyJ8 : Nat → FieldType := fun k => match k with
  | _ => .int
noncomputable abbrev wsJ80 : List Cond := u_ws RJ8 TJ8 0
theorem nmJ8 : ∀ a, a < 0 → ∀ b, b < 0 → a ≠ b → (TJ8 a).2.1 ≠ (TJ8 b).2.1 := by decide +kernel
theorem tyJ8_ok : ∀ k, k < 0 → parseFieldDescriptor (TJ8 k).2.2.1 = some (tyJ8 k) := by decide +kernel
noncomputable abbrev cJ8_newLength_cabcc : ByteArray := prog_29_method_27_code
noncomputable def yJ8_newLength_cabcc : MethodName := ⟨RJ8, "newLength", "(III)I"⟩
noncomputable abbrev cJ8_hugeLength_7cf53 : ByteArray := prog_29_method_28_code
noncomputable def yJ8_hugeLength_7cf53 : MethodName := ⟨RJ8, "hugeLength", "(II)I"⟩
noncomputable def RJ3 : String := "jdk/internal/util/Preconditions"
noncomputable def TJ3 : u_T := fun k => match k with
  | _ => ("", "", "", false)
noncomputable def tyJ3 : Nat → FieldType := fun k => match k with
  | _ => .int
noncomputable abbrev wsJ30 : List Cond := u_ws RJ3 TJ3 0
theorem nmJ3 : ∀ a, a < 0 → ∀ b, b < 0 → a ≠ b → (TJ3 a).2.1 ≠ (TJ3 b).2.1 := by decide +kernel
theorem tyJ3_ok : ∀ k, k < 0 → parseFieldDescriptor (TJ3 k).2.2.1 = some (tyJ3 k) := by decide +kernel
noncomputable abbrev cJ3_checkIndex_8e157 : ByteArray := prog_30_method_11_code
noncomputable def yJ3_checkIndex_8e157 : MethodName := ⟨RJ3, "checkIndex", "(IILjava/util/function/BiFunction;)I"⟩
noncomputable def RL : String := "RodBenchLaw"
noncomputable abbrev cL_law : ByteArray := code
noncomputable def yL_law : MethodName := ⟨RL, "law", "([I)Z"⟩
noncomputable abbrev vwCl : List vw_C := [(RJx4a65c, TJx4a65c, 3), (RX0, TX0, 3), (RX1, TX1, 5), (RX2, TX2, 4), (RX3, TX3, 4), (RX4, TX4, 6), (RX5, TX5, 6), (RX6, TX6, 2), (RX7, TX7, 8), (RX9, TX9, 4), (RX10, TX10, 5), (RX11, TX11, 32)]
