abbrev rm_X7_commonDivisor : Room := { frames := 1, cells := 0, slots := 0, locals := 21 }
def f_X7_commonDivisor_15 : Nat → Int64 → Int64 → Int32 → Option (Int64)
  | 0, _, _, _ => none
  | n + 1, v4, v6, v8 => (if (1000 : Int32) ≤ v8 then some v4 else (if v6 = (0 : Int64) then some v4 else (if v6 = 0 then none else f_X7_commonDivisor_15 n v6 (v4 - v4 / v6 * v6) (v8 + (1 : Int32)))))
def f_X7_commonDivisor_0 (a1 : Int64) (a2 : Int64) : Option (Int64) :=
  f_X7_commonDivisor_15 FU (if 0 < a1 then a1 else -a1) (if 0 < a2 then a2 else -a2) (0 : Int32)
def f_X7_commonDivisor (a1 : Int64) (a2 : Int64) : Option (Int64) :=
  f_X7_commonDivisor_0 a1 a2
abbrev rm_X7_lowestBelow : Room := { frames := 2, cells := 0, slots := 0, locals := 51 }
def f_X7_lowestBelow_0 (a1 : Int64) (a2 : Int64) : Option (Int64) :=
  ((f_X7_commonDivisor a1 a2).bind fun q1 => (if q1 = (0 : Int64) then some (1 : Int64) else (if q1 = 0 then none else some (a2 / q1))))
def f_X7_lowestBelow (a1 : Int64) (a2 : Int64) : Option (Int64) :=
  f_X7_lowestBelow_0 a1 a2
abbrev rm_X7_leastMultiple : Room := { frames := 2, cells := 0, slots := 0, locals := 51 }
def f_X7_leastMultiple_0 (a1 : Int64) (a2 : Int64) : Option (Int64) :=
  ((f_X7_commonDivisor a1 a2).bind fun q1 => (if q1 = (0 : Int64) then some (0 : Int64) else (if q1 = 0 then none else some ((a1 / q1) * a2))))
def f_X7_leastMultiple (a1 : Int64) (a2 : Int64) : Option (Int64) :=
  f_X7_leastMultiple_0 a1 a2
abbrev rm_X7_start : Room := { frames := 1, cells := 0, slots := 0, locals := 21 }
def f_X7_start_27 : Nat → Mem → Int32 → Option (Mem)
  | 0, _, _ => none
  | n + 1, τ, v3 => (if (gI τ 3 0) ≤ v3 then some τ else (if inB v3 15 = true then f_X7_start_27 n (wI τ 0 v3.toNatClampNeg (0 : Int32)) (v3 + (1 : Int32)) else none))
def f_X7_start_0 (τ : Mem) (a1 : Int32) (a2 : Int32) : Option (Mem) :=
  f_X7_start_27 FU (wI (wI (wI τ 3 0 (if (15 : Int32) < a1 then (15 : Int32) else a1)) 4 0 (if (15 : Int32) < a2 then (15 : Int32) else a2)) 5 0 (0 : Int32)) (0 : Int32)
def f_X7_start (τ : Mem) (a1 : Int32) (a2 : Int32) : Option (Mem) :=
  f_X7_start_0 τ a1 a2
abbrev rm_X7_openRow : Room := { frames := 0, cells := 0, slots := 0, locals := 0 }
def f_X7_openRow_2 (τ : Mem) : Nat → Int32 → Int32 → Option (Int32)
  | 0, _, _ => none
  | n + 1, v1, v2 => (if (gI τ 3 0) ≤ v2 then some (-1 : Int32) else (if inB v2 15 = true then (if (gI τ 0 v2.toNatClampNeg) = 0 then (if inB v1 16 = true then (if (gL τ v2.toNatClampNeg v1.toNatClampNeg) = (0 : Int64) then f_X7_openRow_2 τ n v1 (v2 + (1 : Int32)) else some v2) else none) else f_X7_openRow_2 τ n v1 (v2 + (1 : Int32))) else none))
def f_X7_openRow_0 (τ : Mem) (a1 : Int32) : Option (Int32) :=
  f_X7_openRow_2 τ FU a1 (0 : Int32)
def f_X7_openRow (τ : Mem) (a1 : Int32) : Option (Int32) :=
  f_X7_openRow_0 τ a1
abbrev rm_X7_makeAboveNought : Room := { frames := 0, cells := 0, slots := 0, locals := 0 }
def f_X7_makeAboveNought_11 : Nat → Mem → Nat → Int32 → Option (Mem)
  | 0, _, _, _ => none
  | n + 1, τ, v1, v3 => (if (gI τ 4 0) < v3 then some τ else (if inB v3 16 = true then f_X7_makeAboveNought_11 n (wL τ v1 v3.toNatClampNeg (-(gL τ v1 v3.toNatClampNeg))) v1 (v3 + (1 : Int32)) else none))
def f_X7_makeAboveNought_0 (τ : Mem) (a1 : Nat) (a2 : Int32) : Option (Mem) :=
  (if inB a2 16 = true then (if (gL τ a1 a2.toNatClampNeg) ≤ (0 : Int64) then f_X7_makeAboveNought_11 FU τ a1 (0 : Int32) else some τ) else none)
def f_X7_makeAboveNought (τ : Mem) (a1 : Nat) (a2 : Int32) : Option (Mem) :=
  f_X7_makeAboveNought_0 τ a1 a2
abbrev rm_X7_takeOff : Room := { frames := 2, cells := 0, slots := 0, locals := 51 }
def f_X7_takeOff_38 : Nat → Mem → Nat → Nat → Int64 → Int64 → Int32 → Option (Mem)
  | 0, _, _, _, _, _, _ => none
  | n + 1, τ, v1, v2, v6, v8, v10 => (if (gI τ 4 0) < v10 then some τ else (if inB v10 16 = true then f_X7_takeOff_38 n (wL τ v1 v10.toNatClampNeg ((v6 * (gL τ v1 v10.toNatClampNeg)) - (v8 * (gL τ v2 v10.toNatClampNeg)))) v1 v2 v6 v8 (v10 + (1 : Int32)) else none))
def f_X7_takeOff_0 (τ : Mem) (a1 : Nat) (a2 : Nat) (a3 : Int32) : Option (Mem) :=
  (if inB a3 16 = true then ((f_X7_commonDivisor (gL τ a2 a3.toNatClampNeg) (gL τ a1 a3.toNatClampNeg)).bind fun q2 => (if q2 = (0 : Int64) then some τ else (if q2 = 0 then none else f_X7_takeOff_38 FU τ a1 a2 ((gL τ a2 a3.toNatClampNeg) / q2) ((gL τ a1 a3.toNatClampNeg) / q2) (0 : Int32)))) else none)
def f_X7_takeOff (τ : Mem) (a1 : Nat) (a2 : Nat) (a3 : Int32) : Option (Mem) :=
  f_X7_takeOff_0 τ a1 a2 a3
abbrev rm_X7_shrink : Room := { frames := 2, cells := 0, slots := 0, locals := 51 }
def f_X7_shrink_47 : Nat → Mem → Nat → Int64 → Int32 → Option (Mem)
  | 0, _, _, _, _ => none
  | n + 1, τ, v1, v2, v4 => (if (gI τ 4 0) < v4 then some τ else (if inB v4 16 = true then (if v2 = 0 then none else f_X7_shrink_47 n (wL τ v1 v4.toNatClampNeg ((gL τ v1 v4.toNatClampNeg) / v2)) v1 v2 (v4 + (1 : Int32))) else none))
def f_X7_shrink_35 (τ : Mem) (v1 : Nat) (v2 : Int64) : Option (Mem) :=
  (if (2 : Int64) ≤ v2 then f_X7_shrink_47 FU τ v1 v2 (0 : Int32) else some τ)
def f_X7_shrink_5 : Nat → Mem → Nat → Int64 → Int32 → Option (Mem)
  | 0, _, _, _, _ => none
  | n + 1, τ, v1, v2, v4 => (if (gI τ 4 0) < v4 then f_X7_shrink_35 τ v1 v2 else (if v2 = (1 : Int64) then f_X7_shrink_35 τ v1 v2 else (if inB v4 16 = true then ((f_X7_commonDivisor v2 (gL τ v1 v4.toNatClampNeg)).bind fun q4 => f_X7_shrink_5 n τ v1 q4 (v4 + (1 : Int32))) else none)))
def f_X7_shrink_0 (τ : Mem) (a1 : Nat) : Option (Mem) :=
  f_X7_shrink_5 FU τ a1 (0 : Int64) (0 : Int32)
def f_X7_shrink (τ : Mem) (a1 : Nat) : Option (Mem) :=
  f_X7_shrink_0 τ a1
abbrev rm_X7_clearColumn : Room := { frames := 3, cells := 0, slots := 0, locals := 81 }
def f_X7_clearColumn_2 : Nat → Mem → Int32 → Int32 → Int32 → Option (Mem)
  | 0, _, _, _, _ => none
  | n + 1, τ, v1, v2, v3 => (if (gI τ 3 0) ≤ v3 then some τ else (if v3 = v1 then f_X7_clearColumn_2 n τ v1 v2 (v3 + (1 : Int32)) else (if inB v3 15 = true then (if inB v2 16 = true then (if (gL τ v3.toNatClampNeg v2.toNatClampNeg) = (0 : Int64) then f_X7_clearColumn_2 n τ v1 v2 (v3 + (1 : Int32)) else (if inB v1 15 = true then ((f_X7_takeOff τ v3.toNatClampNeg v1.toNatClampNeg v2).bind fun q7 => ((f_X7_shrink q7 v3.toNatClampNeg).bind fun q8 => f_X7_clearColumn_2 n q8 v1 v2 (v3 + (1 : Int32)))) else none)) else none) else none)))
def f_X7_clearColumn_0 (τ : Mem) (a1 : Int32) (a2 : Int32) : Option (Mem) :=
  f_X7_clearColumn_2 FU τ a1 a2 (0 : Int32)
def f_X7_clearColumn (τ : Mem) (a1 : Int32) (a2 : Int32) : Option (Mem) :=
  f_X7_clearColumn_0 τ a1 a2
abbrev rm_X7_isLoose : Room := { frames := 0, cells := 0, slots := 0, locals := 0 }
def f_X7_isLoose_0 (τ : Mem) (a1 : Int32) : Option (Int32) :=
  (if a1 < 0 then some (1 : Int32) else (if (gI τ 4 0) ≤ a1 then some (1 : Int32) else (if inB a1 15 = true then (if (gI τ 1 a1.toNatClampNeg) = (-1 : Int32) then some (1 : Int32) else some (0 : Int32)) else none)))
def f_X7_isLoose (τ : Mem) (a1 : Int32) : Option (Int32) :=
  f_X7_isLoose_0 τ a1
abbrev rm_X7_scaleOf : Room := { frames := 3, cells := 0, slots := 0, locals := 76 }
def f_X7_scaleOf_5 (τ : Mem) : Nat → Int32 → Int64 → Int32 → Option (Int64)
  | 0, _, _, _ => none
  | n + 1, v1, v2, v4 => (if (gI τ 4 0) ≤ v4 then some v2 else ((f_X7_isLoose τ v4).bind fun q2 => (if q2 = 0 then (if inB v4 15 = true then (if inB (gI τ 1 v4.toNatClampNeg) 15 = true then (if inB v1 16 = true then (if inB v4 16 = true then ((f_X7_lowestBelow (gL τ ((gI τ 1 v4.toNatClampNeg).toNatClampNeg) v1.toNatClampNeg) (gL τ ((gI τ 1 v4.toNatClampNeg).toNatClampNeg) v4.toNatClampNeg)).bind fun q8 => ((f_X7_leastMultiple v2 q8).bind fun q9 => f_X7_scaleOf_5 τ n v1 q9 (v4 + (1 : Int32)))) else none) else none) else none) else none) else f_X7_scaleOf_5 τ n v1 v2 (v4 + (1 : Int32)))))
def f_X7_scaleOf_0 (τ : Mem) (a1 : Int32) : Option (Int64) :=
  f_X7_scaleOf_5 τ FU a1 (1 : Int64) (0 : Int32)
def f_X7_scaleOf (τ : Mem) (a1 : Int32) : Option (Int64) :=
  f_X7_scaleOf_0 τ a1
abbrev rm_X7_reduce : Room := { frames := 4, cells := 0, slots := 0, locals := 104 }
def f_X7_reduce_83 : Nat → Mem → Int32 → Option (Mem)
  | 0, _, _ => none
  | n + 1, τ, v1 => (if (gI τ 5 0) ≤ v1 then some τ else (if inB v1 15 = true then ((f_X7_scaleOf τ (gI τ 2 v1.toNatClampNeg)).bind fun q3 => f_X7_reduce_83 n (wL τ 15 v1.toNatClampNeg q3) (v1 + (1 : Int32))) else none))
def f_X7_reduce_2 : Nat → Mem → Int32 → Option (Mem)
  | 0, _, _ => none
  | n + 1, τ, v1 => (if (gI τ 4 0) ≤ v1 then f_X7_reduce_83 FU τ (0 : Int32) else ((f_X7_openRow τ v1).bind fun q2 => (if inB v1 15 = true then (if q2 = (-1 : Int32) then (if inB (gI (wI τ 1 v1.toNatClampNeg q2) 5 0) 15 = true then f_X7_reduce_2 n (wI (wI (wI τ 1 v1.toNatClampNeg q2) 2 ((gI (wI τ 1 v1.toNatClampNeg q2) 5 0).toNatClampNeg) v1) 5 0 ((gI (wI (wI τ 1 v1.toNatClampNeg q2) 2 ((gI (wI τ 1 v1.toNatClampNeg q2) 5 0).toNatClampNeg) v1) 5 0) + (1 : Int32))) (v1 + (1 : Int32)) else none) else (if inB q2 15 = true then ((f_X7_makeAboveNought (wI (wI τ 1 v1.toNatClampNeg q2) 0 q2.toNatClampNeg (1 : Int32)) q2.toNatClampNeg v1).bind fun q6 => ((f_X7_clearColumn q6 q2 v1).bind fun q7 => f_X7_reduce_2 n q7 (v1 + (1 : Int32)))) else none)) else none)))
def f_X7_reduce_0 (τ : Mem) : Option (Mem) :=
  f_X7_reduce_2 FU τ (0 : Int32)
def f_X7_reduce (τ : Mem) : Option (Mem) :=
  f_X7_reduce_0 τ
abbrev rm_X7_looseColumns : Room := { frames := 0, cells := 0, slots := 0, locals := 0 }
def f_X7_looseColumns_0 (τ : Mem) : Option (Int32) :=
  some (gI τ 5 0)
def f_X7_looseColumns (τ : Mem) : Option (Int32) :=
  f_X7_looseColumns_0 τ
abbrev rm_X7_rank : Room := { frames := 0, cells := 0, slots := 0, locals := 0 }
def f_X7_rank_0 (τ : Mem) : Option (Int32) :=
  some ((gI τ 4 0) - (gI τ 5 0))
def f_X7_rank (τ : Mem) : Option (Int32) :=
  f_X7_rank_0 τ
abbrev rm_X7_answer : Room := { frames := 1, cells := 0, slots := 0, locals := 21 }
def f_X7_answer_0 (τ : Mem) (a1 : Int32) (a2 : Int32) : Option (Int64) :=
  (if a1 < 0 then some (0 : Int64) else (if a1 < (gI τ 5 0) then (if inB a1 15 = true then (if a2 = (gI τ 2 a1.toNatClampNeg) then some (gL τ 15 a1.toNatClampNeg) else ((f_X7_isLoose τ a2).bind fun q5 => (if q5 = 0 then (if inB a2 15 = true then (if inB (gI τ 1 a2.toNatClampNeg) 15 = true then (if inB a2 16 = true then (if (gL τ ((gI τ 1 a2.toNatClampNeg).toNatClampNeg) a2.toNatClampNeg) = (0 : Int64) then some (0 : Int64) else (if inB (gI τ 2 a1.toNatClampNeg) 16 = true then (if (gL τ ((gI τ 1 a2.toNatClampNeg).toNatClampNeg) a2.toNatClampNeg) = 0 then none else some ((-((gL τ ((gI τ 1 a2.toNatClampNeg).toNatClampNeg) (gI τ 2 a1.toNatClampNeg).toNatClampNeg) * (gL τ 15 a1.toNatClampNeg))) / (gL τ ((gI τ 1 a2.toNatClampNeg).toNatClampNeg) a2.toNatClampNeg))) else none)) else none) else none) else none) else some (0 : Int64)))) else none) else some (0 : Int64)))
def f_X7_answer (τ : Mem) (a1 : Int32) (a2 : Int32) : Option (Int64) :=
  f_X7_answer_0 τ a1 a2
abbrev rm_X7_hasSolution : Room := { frames := 0, cells := 0, slots := 0, locals := 0 }
def f_X7_hasSolution_2 (τ : Mem) : Nat → Int32 → Option (Int32)
  | 0, _ => none
  | n + 1, v1 => (if (gI τ 3 0) ≤ v1 then some (1 : Int32) else (if inB v1 15 = true then (if (gI τ 0 v1.toNatClampNeg) = 0 then (if inB (gI τ 4 0) 16 = true then (if (gL τ v1.toNatClampNeg (gI τ 4 0).toNatClampNeg) = (0 : Int64) then f_X7_hasSolution_2 τ n (v1 + (1 : Int32)) else some (0 : Int32)) else none) else f_X7_hasSolution_2 τ n (v1 + (1 : Int32))) else none))
def f_X7_hasSolution_0 (τ : Mem) : Option (Int32) :=
  f_X7_hasSolution_2 τ FU (0 : Int32)
def f_X7_hasSolution (τ : Mem) : Option (Int32) :=
  f_X7_hasSolution_0 τ
abbrev rm_X7_solutionAbove : Room := { frames := 2, cells := 0, slots := 0, locals := 51 }
def f_X7_solutionAbove_0 (τ : Mem) (a1 : Int32) : Option (Int64) :=
  ((f_X7_isLoose τ a1).bind fun q1 => (if q1 = 0 then (if inB a1 15 = true then (if inB (gI τ 1 a1.toNatClampNeg) 15 = true then (if inB (gI τ 4 0) 16 = true then (if inB a1 16 = true then ((f_X7_commonDivisor (gL τ ((gI τ 1 a1.toNatClampNeg).toNatClampNeg) (gI τ 4 0).toNatClampNeg) (gL τ ((gI τ 1 a1.toNatClampNeg).toNatClampNeg) a1.toNatClampNeg)).bind fun q7 => (if q7 = (0 : Int64) then some (0 : Int64) else (if q7 = 0 then none else some ((gL τ ((gI τ 1 a1.toNatClampNeg).toNatClampNeg) (gI τ 4 0).toNatClampNeg) / q7)))) else none) else none) else none) else none) else some (0 : Int64)))
def f_X7_solutionAbove (τ : Mem) (a1 : Int32) : Option (Int64) :=
  f_X7_solutionAbove_0 τ a1
abbrev rm_X7_solutionBelow : Room := { frames := 3, cells := 0, slots := 0, locals := 76 }
def f_X7_solutionBelow_0 (τ : Mem) (a1 : Int32) : Option (Int64) :=
  ((f_X7_isLoose τ a1).bind fun q1 => (if q1 = 0 then (if inB a1 15 = true then (if inB (gI τ 1 a1.toNatClampNeg) 15 = true then (if inB (gI τ 4 0) 16 = true then (if inB a1 16 = true then ((f_X7_lowestBelow (gL τ ((gI τ 1 a1.toNatClampNeg).toNatClampNeg) (gI τ 4 0).toNatClampNeg) (gL τ ((gI τ 1 a1.toNatClampNeg).toNatClampNeg) a1.toNatClampNeg)).bind fun q7 => some q7) else none) else none) else none) else none) else some (1 : Int64)))
def f_X7_solutionBelow (τ : Mem) (a1 : Int32) : Option (Int64) :=
  f_X7_solutionBelow_0 τ a1
section
variable {p : Program} {l : Launch} {e : Env} {s : State} {m : MethodId} {args : Array Value} {below : List Frame} {meth : Method} {c : Code} {g : Gc} {ad : Nat → Nat → Nat}
set_option maxRecDepth 100000 in
set_option maxHeartbeats 4000000 in
theorem t_X7_commonDivisor_15 {χ : Mem} {T : Nat → Mem} {σ : Mem} (C : Cx p s m args meth c cX7_commonDivisor 11 RX7 (some .long) COM g) {rr : Int64} : ∀ (n : Nat) (v4 : Int64) (v6 : Int64) (v8 : Int32) (h : f_X7_commonDivisor_15 n v4 v6 v8 = some rr), JJ p l e rm_X7_commonDivisor s m args below meth c 11 g ad (MQ below (PoL g ad χ T σ rr) args s 0 0 (geB g)) χ T σ 0 0 [(4, .long v4), (6, .long v6), (8, .int v8)] 15 [] := by
  intro n
  induction n with
  | zero => intro v4 v6 v8  h; cases h
  | succ n ih =>
  intro v4 v6 v8  h
  rw [f_X7_commonDivisor_15] at h
  refine j_iload C 2 rfl dX7_commonDivisor_15 ?_
  refine j_sipush (v := 1000) C (by decide) dX7_commonDivisor_17 ?_
  refine j_icmp_ge (tgt := 51) C (by decide) dX7_commonDivisor_20 (fun hc1 => ?_) (fun hc1 => ?_)
  · replace h := (if_pos hc1).symm.trans h
    refine j_lload C 0 rfl dX7_commonDivisor_51 ?_
    obtain rfl := Option.some.inj h
    exact j_lret C rfl (Nat.le_refl _) (Nat.le_refl _) dX7_commonDivisor_53
  · replace h := (if_neg hc1).symm.trans h
    refine j_lload C 1 rfl dX7_commonDivisor_23 ?_
    refine j_lconst (v := 0) C (by decide) dX7_commonDivisor_25 ?_
    refine j_lcmp_eq (tgt := 51) C dX7_commonDivisor_27 (by decide) dX7_commonDivisor_26 (fun hc2 => ?_) (fun hc2 => ?_)
    · replace h := (if_pos hc2).symm.trans h
      refine j_lload C 0 rfl dX7_commonDivisor_51 ?_
      obtain rfl := Option.some.inj h
      exact j_lret C rfl (Nat.le_refl _) (Nat.le_refl _) dX7_commonDivisor_53
    · replace h := (if_neg hc2).symm.trans h
      refine j_lload C 0 rfl dX7_commonDivisor_30 ?_
      refine j_lload C 1 rfl dX7_commonDivisor_32 ?_
      obtain ⟨hg3, h⟩ := gz_some h
      refine j_lrem C hg3 dX7_commonDivisor_34 ?_
      refine j_lstore (L' := [(9, .long (v4 - v4 / v6 * v6)), (4, .long v4), (6, .long v6), (8, .int v8)]) C (by decide) rfl dX7_commonDivisor_35 ?_
      refine j_lload C 2 rfl dX7_commonDivisor_37 ?_
      refine j_lstore (L' := [(4, .long v6), (9, .long (v4 - v4 / v6 * v6)), (6, .long v6), (8, .int v8)]) C (by decide) rfl dX7_commonDivisor_39 ?_
      refine j_lload C 1 rfl dX7_commonDivisor_41 ?_
      refine j_lstore (L' := [(6, .long (v4 - v4 / v6 * v6)), (4, .long v6), (9, .long (v4 - v4 / v6 * v6)), (8, .int v8)]) C (by decide) rfl dX7_commonDivisor_43 ?_
      refine j_iinc (v := v8 + (1 : Int32)) (L' := [(8, .int (v8 + (1 : Int32))), (6, .long (v4 - v4 / v6 * v6)), (4, .long v6), (9, .long (v4 - v4 / v6 * v6))]) C 3 rfl rfl (by decide) rfl dX7_commonDivisor_45 ?_
      refine j_goto (tgt := 15) C (by decide) dX7_commonDivisor_48 ?_
      exact j_sub [2, 1, 0] rfl (ih v6 (v4 - v4 / v6 * v6) (v8 + (1 : Int32)) h)
set_option maxRecDepth 100000 in
set_option maxHeartbeats 4000000 in
theorem t_X7_commonDivisor_0 {χ : Mem} {T : Nat → Mem} {σ : Mem} (C : Cx p s m args meth c cX7_commonDivisor 11 RX7 (some .long) COM g) {rr : Int64} (a1 : Int64) (a2 : Int64) (h : f_X7_commonDivisor_0 a1 a2 = some rr) : JJ p l e rm_X7_commonDivisor s m args below meth c 11 g ad (MQ below (PoL g ad χ T σ rr) args s 0 0 (geB g)) χ T σ 0 0 [(0, .long a1), (2, .long a2)] 0 [] := by
  rw [f_X7_commonDivisor_0] at h
  refine j_lload_n C 0 rfl rfl dX7_commonDivisor_0 ?_
  refine j_absL C mw_500 mw_501 mw_78 mw_502 (Nat.le_of_ble_eq_true rfl) (Nat.le_of_ble_eq_true rfl) (Nat.zero_le _) (Nat.zero_le _) dX7_commonDivisor_1 ?_
  refine j_lstore (L' := [(4, .long (if 0 < a1 then a1 else -a1)), (0, .long a1), (2, .long a2)]) C (by decide) rfl dX7_commonDivisor_4 ?_
  refine j_lload_n C 2 rfl rfl dX7_commonDivisor_6 ?_
  refine j_absL C mw_500 mw_501 mw_78 mw_502 (Nat.le_of_ble_eq_true rfl) (Nat.le_of_ble_eq_true rfl) (Nat.zero_le _) (Nat.zero_le _) dX7_commonDivisor_7 ?_
  refine j_lstore (L' := [(6, .long (if 0 < a2 then a2 else -a2)), (4, .long (if 0 < a1 then a1 else -a1)), (0, .long a1), (2, .long a2)]) C (by decide) rfl dX7_commonDivisor_10 ?_
  refine j_iconst (v := 0) C (by decide) dX7_commonDivisor_12 ?_
  refine j_istore (L' := [(8, .int (0 : Int32)), (6, .long (if 0 < a2 then a2 else -a2)), (4, .long (if 0 < a1 then a1 else -a1)), (0, .long a1), (2, .long a2)]) C (by decide) rfl dX7_commonDivisor_13 ?_
  exact j_sub [2, 1, 0] rfl (t_X7_commonDivisor_15 C FU (if 0 < a1 then a1 else -a1) (if 0 < a2 then a2 else -a2) (0 : Int32) h)
set_option maxRecDepth 100000 in
set_option maxHeartbeats 4000000 in
theorem c_X7_commonDivisor {l : Launch} {g : Gc} {ad : Nat → Nat → Nat} {χ : Mem} {T : Nat → Mem} {σ : Mem} {a1 : Int64} {a2 : Int64} {rr : Int64} (h : f_X7_commonDivisor a1 a2 = some rr) : Met l yX7_commonDivisor (WS yX7_commonDivisor cX7_commonDivisor 11 (some .long)) rm_X7_commonDivisor (PreW g ad χ T σ [.long a1, .long a2]) (PoL g ad χ T σ rr) 0 0 (geB g) := by
  refine j_metW (by decide) (Nat.le_of_ble_eq_true rfl) fun p e s m below meth c C hname => ?_
  rw [f_X7_commonDivisor] at h
  exact j_sub [0, 1] rfl (t_X7_commonDivisor_0 C a1 a2 h)
set_option maxRecDepth 100000 in
set_option maxHeartbeats 4000000 in
theorem t_X7_lowestBelow_0 {χ : Mem} {T : Nat → Mem} {σ : Mem} (C : Cx p s m args meth c cX7_lowestBelow 6 RX7 (some .long) COM g) {rr : Int64} (a1 : Int64) (a2 : Int64) (h : f_X7_lowestBelow_0 a1 a2 = some rr) : JJ p l e rm_X7_lowestBelow s m args below meth c 6 g ad (MQ below (PoL g ad χ T σ rr) args s 0 0 (geB g)) χ T σ 0 0 [(0, .long a1), (2, .long a2)] 0 [] := by
  rw [f_X7_lowestBelow_0] at h
  refine j_lload_n C 0 rfl rfl dX7_lowestBelow_0 ?_
  refine j_lload_n C 1 rfl rfl dX7_lowestBelow_1 ?_
  obtain ⟨q1, hq1, h⟩ := bi_some h
  refine j_callSl (As := [.long a1, .long a2]) (rest := []) C (c_X7_commonDivisor hq1) (va_cwS 2 C.ts (good_S mw_497 mw_498 mw_69 mw_499) rfl rfl rfl (by decide +kernel) ⟨Nat.le_of_ble_eq_true rfl, Nat.le_of_ble_eq_true rfl⟩) rfl rfl (Nat.le_of_ble_eq_true rfl) dX7_lowestBelow_2 ⟨Nat.le_of_ble_eq_true rfl, Nat.le_of_ble_eq_true rfl⟩ ?_
  refine j_lstore (L' := [(4, .long q1), (0, .long a1), (2, .long a2)]) C (by decide) rfl dX7_lowestBelow_5 ?_
  refine j_lload C 0 rfl dX7_lowestBelow_7 ?_
  refine j_lconst (v := 0) C (by decide) dX7_lowestBelow_9 ?_
  refine j_lcmp_ne (tgt := 18) C dX7_lowestBelow_11 (by decide) dX7_lowestBelow_10 (fun hc2 => ?_) (fun hc2 => ?_)
  · replace h := (if_neg hc2).symm.trans h
    refine j_lload_n C 2 rfl rfl dX7_lowestBelow_18 ?_
    refine j_lload C 0 rfl dX7_lowestBelow_19 ?_
    obtain ⟨hg3, h⟩ := gz_some h
    refine j_ldiv C hg3 dX7_lowestBelow_21 ?_
    obtain rfl := Option.some.inj h
    exact j_lret C rfl (Nat.le_refl _) (Nat.le_refl _) dX7_lowestBelow_22
  · replace h := (if_pos hc2).symm.trans h
    refine j_lconst (v := 1) C (by decide) dX7_lowestBelow_14 ?_
    refine j_goto (tgt := 22) C (by decide) dX7_lowestBelow_15 ?_
    obtain rfl := Option.some.inj h
    exact j_lret C rfl (Nat.le_refl _) (Nat.le_refl _) dX7_lowestBelow_22
set_option maxRecDepth 100000 in
set_option maxHeartbeats 4000000 in
theorem c_X7_lowestBelow {l : Launch} {g : Gc} {ad : Nat → Nat → Nat} {χ : Mem} {T : Nat → Mem} {σ : Mem} {a1 : Int64} {a2 : Int64} {rr : Int64} (h : f_X7_lowestBelow a1 a2 = some rr) : Met l yX7_lowestBelow (WS yX7_lowestBelow cX7_lowestBelow 6 (some .long)) rm_X7_lowestBelow (PreW g ad χ T σ [.long a1, .long a2]) (PoL g ad χ T σ rr) 0 0 (geB g) := by
  refine j_metW (by decide) (Nat.le_of_ble_eq_true rfl) fun p e s m below meth c C hname => ?_
  rw [f_X7_lowestBelow] at h
  exact j_sub [0, 1] rfl (t_X7_lowestBelow_0 C a1 a2 h)
set_option maxRecDepth 100000 in
set_option maxHeartbeats 4000000 in
theorem t_X7_leastMultiple_0 {χ : Mem} {T : Nat → Mem} {σ : Mem} (C : Cx p s m args meth c cX7_leastMultiple 6 RX7 (some .long) COM g) {rr : Int64} (a1 : Int64) (a2 : Int64) (h : f_X7_leastMultiple_0 a1 a2 = some rr) : JJ p l e rm_X7_leastMultiple s m args below meth c 6 g ad (MQ below (PoL g ad χ T σ rr) args s 0 0 (geB g)) χ T σ 0 0 [(0, .long a1), (2, .long a2)] 0 [] := by
  rw [f_X7_leastMultiple_0] at h
  refine j_lload_n C 0 rfl rfl dX7_leastMultiple_0 ?_
  refine j_lload_n C 1 rfl rfl dX7_leastMultiple_1 ?_
  obtain ⟨q1, hq1, h⟩ := bi_some h
  refine j_callSl (As := [.long a1, .long a2]) (rest := []) C (c_X7_commonDivisor hq1) (va_cwS 2 C.ts (good_S mw_497 mw_498 mw_69 mw_499) rfl rfl rfl (by decide +kernel) ⟨Nat.le_of_ble_eq_true rfl, Nat.le_of_ble_eq_true rfl⟩) rfl rfl (Nat.le_of_ble_eq_true rfl) dX7_leastMultiple_2 ⟨Nat.le_of_ble_eq_true rfl, Nat.le_of_ble_eq_true rfl⟩ ?_
  refine j_lstore (L' := [(4, .long q1), (0, .long a1), (2, .long a2)]) C (by decide) rfl dX7_leastMultiple_5 ?_
  refine j_lload C 0 rfl dX7_leastMultiple_7 ?_
  refine j_lconst (v := 0) C (by decide) dX7_leastMultiple_9 ?_
  refine j_lcmp_ne (tgt := 18) C dX7_leastMultiple_11 (by decide) dX7_leastMultiple_10 (fun hc2 => ?_) (fun hc2 => ?_)
  · replace h := (if_neg hc2).symm.trans h
    refine j_lload_n C 1 rfl rfl dX7_leastMultiple_18 ?_
    refine j_lload C 0 rfl dX7_leastMultiple_19 ?_
    obtain ⟨hg3, h⟩ := gz_some h
    refine j_ldiv C hg3 dX7_leastMultiple_21 ?_
    refine j_lload_n C 2 rfl rfl dX7_leastMultiple_22 ?_
    refine j_lmul C dX7_leastMultiple_23 ?_
    obtain rfl := Option.some.inj h
    exact j_lret C rfl (Nat.le_refl _) (Nat.le_refl _) dX7_leastMultiple_24
  · replace h := (if_pos hc2).symm.trans h
    refine j_lconst (v := 0) C (by decide) dX7_leastMultiple_14 ?_
    refine j_goto (tgt := 24) C (by decide) dX7_leastMultiple_15 ?_
    obtain rfl := Option.some.inj h
    exact j_lret C rfl (Nat.le_refl _) (Nat.le_refl _) dX7_leastMultiple_24
set_option maxRecDepth 100000 in
set_option maxHeartbeats 4000000 in
theorem c_X7_leastMultiple {l : Launch} {g : Gc} {ad : Nat → Nat → Nat} {χ : Mem} {T : Nat → Mem} {σ : Mem} {a1 : Int64} {a2 : Int64} {rr : Int64} (h : f_X7_leastMultiple a1 a2 = some rr) : Met l yX7_leastMultiple (WS yX7_leastMultiple cX7_leastMultiple 6 (some .long)) rm_X7_leastMultiple (PreW g ad χ T σ [.long a1, .long a2]) (PoL g ad χ T σ rr) 0 0 (geB g) := by
  refine j_metW (by decide) (Nat.le_of_ble_eq_true rfl) fun p e s m below meth c C hname => ?_
  rw [f_X7_leastMultiple] at h
  exact j_sub [0, 1] rfl (t_X7_leastMultiple_0 C a1 a2 h)
set_option maxRecDepth 100000 in
set_option maxHeartbeats 4000000 in
theorem t_X7_start_27 {T : Nat → Mem} {σ : Mem} {t : Nat} {χ : Mem} (C : Cx p s m args meth c cX7_start 4 RX7 none COM g) (ht : t < 3) {rr : Mem} : ∀ (n : Nat) (τ : Mem) (v3 : Int32) (h : f_X7_start_27 n τ v3 = some rr), JJ p l e rm_X7_start s m args below meth c 4 g ad (MQ below (PoV g ad χ (stT T t (rr)) σ) args s 0 0 (geB g)) χ (stT T t τ) σ 0 0 [(0, .ref (ad 9 t)), (3, .int v3)] 27 [] := by
  intro n
  induction n with
  | zero => intro τ v3  h; cases h
  | succ n ih =>
  intro τ v3  h
  rw [f_X7_start_27] at h
  refine j_iload_n C 1 rfl rfl dX7_start_27 ?_
  refine j_aload_n C 0 rfl rfl dX7_start_28 ?_
  refine j_getG C in_X7 (by decide) (cwT_9 ht) rfl 5 (by decide) mw_169 (fun _ h => h) rfl dX7_start_29 ?_
  refine j_icmp_ge (tgt := 48) C (by decide) dX7_start_32 (fun hc1 => ?_) (fun hc1 => ?_)
  · replace h := (if_pos hc1).symm.trans h
    obtain rfl := Option.some.inj h
    exact j_vret C rfl (Nat.le_refl _) (Nat.le_refl _) dX7_start_48
  · replace h := (if_neg hc1).symm.trans h
    refine j_aload_n C 0 rfl rfl dX7_start_35 ?_
    refine j_getG C in_X7 (by decide) (cwT_9 ht) rfl 1 (by decide) mw_165 (fun _ h => h) rfl dX7_start_36 ?_
    refine j_iload_n C 1 rfl rfl dX7_start_39 ?_
    refine j_iconst (v := 0) C (by decide) dX7_start_40 ?_
    obtain ⟨hg2, h⟩ := gd_some h
    refine j_zastP C (Or.inl rfl) (by decide) (po_taken ht v3.toNatClampNeg (0 : Int32)) hg2 dX7_start_41 ?_
    refine j_iinc (v := v3 + (1 : Int32)) (L' := [(3, .int (v3 + (1 : Int32))), (0, .ref (ad 9 t))]) C 1 rfl rfl (by decide) rfl dX7_start_42 ?_
    refine j_goto (tgt := 27) C (by decide) dX7_start_45 ?_
    exact j_sub [1, 0] rfl (ih (wI τ 0 v3.toNatClampNeg (0 : Int32)) (v3 + (1 : Int32)) h)
set_option maxRecDepth 100000 in
set_option maxHeartbeats 4000000 in
theorem t_X7_start_0 {T : Nat → Mem} {σ : Mem} {t : Nat} {χ : Mem} (C : Cx p s m args meth c cX7_start 4 RX7 none COM g) (ht : t < 3) {rr : Mem} (τ : Mem) (a1 : Int32) (a2 : Int32) (h : f_X7_start_0 τ a1 a2 = some rr) : JJ p l e rm_X7_start s m args below meth c 4 g ad (MQ below (PoV g ad χ (stT T t (rr)) σ) args s 0 0 (geB g)) χ (stT T t τ) σ 0 0 [(0, .ref (ad 9 t)), (1, .int a1), (2, .int a2)] 0 [] := by
  rw [f_X7_start_0] at h
  refine j_aload_n C 0 rfl rfl dX7_start_0 ?_
  refine j_iload_n C 1 rfl rfl dX7_start_1 ?_
  refine j_bipush (v := 15) C (by decide) dX7_start_2 ?_
  refine j_minI C mw_464 mw_423 mw_78 mw_424 (Nat.le_of_ble_eq_true rfl) (Nat.le_of_ble_eq_true rfl) (Nat.zero_le _) (Nat.zero_le _) dX7_start_4 ?_
  refine j_putI C in_X7 tyX7_ok nmX7 rfl 5 (by decide) (by decide) (po_rows ht (if (15 : Int32) < a1 then (15 : Int32) else a1)) mw_169 (fun _ h => h) rfl (tyX7_ok 5 (by decide)) (Nat.le_of_ble_eq_true rfl) dX7_start_7 ?_
  refine j_aload_n C 0 rfl rfl dX7_start_10 ?_
  refine j_iload_n C 2 rfl rfl dX7_start_11 ?_
  refine j_bipush (v := 15) C (by decide) dX7_start_12 ?_
  refine j_minI C mw_464 mw_423 mw_78 mw_424 (Nat.le_of_ble_eq_true rfl) (Nat.le_of_ble_eq_true rfl) (Nat.zero_le _) (Nat.zero_le _) dX7_start_14 ?_
  refine j_putI C in_X7 tyX7_ok nmX7 rfl 6 (by decide) (by decide) (po_columns ht (if (15 : Int32) < a2 then (15 : Int32) else a2)) mw_170 (fun _ h => h) rfl (tyX7_ok 6 (by decide)) (Nat.le_of_ble_eq_true rfl) dX7_start_17 ?_
  refine j_aload_n C 0 rfl rfl dX7_start_20 ?_
  refine j_iconst (v := 0) C (by decide) dX7_start_21 ?_
  refine j_putI C in_X7 tyX7_ok nmX7 rfl 7 (by decide) (by decide) (po_looseCount ht (0 : Int32)) mw_171 (fun _ h => h) rfl (tyX7_ok 7 (by decide)) (Nat.le_of_ble_eq_true rfl) dX7_start_22 ?_
  refine j_iconst (v := 0) C (by decide) dX7_start_25 ?_
  refine j_istore_n (L' := [(3, .int (0 : Int32)), (0, .ref (ad 9 t)), (1, .int a1), (2, .int a2)]) C rfl (by decide) rfl dX7_start_26 ?_
  exact j_sub [1, 0] rfl (t_X7_start_27 C ht FU (wI (wI (wI τ 3 0 (if (15 : Int32) < a1 then (15 : Int32) else a1)) 4 0 (if (15 : Int32) < a2 then (15 : Int32) else a2)) 5 0 (0 : Int32)) (0 : Int32) h)
set_option maxRecDepth 100000 in
set_option maxHeartbeats 4000000 in
theorem c_X7_start {l : Launch} {g : Gc} {ad : Nat → Nat → Nat} {χ : Mem} {T : Nat → Mem} {σ : Mem} {τ : Mem} {t : Nat} {a1 : Int32} {a2 : Int32} (ht : t < 3) {rr : Mem} (h : f_X7_start τ a1 a2 = some rr) : Met l yX7_start (WS yX7_start cX7_start 4 none) rm_X7_start (PreW g ad χ (stT T t τ) σ [.ref (ad 9 t), .int a1, .int a2]) (PoV g ad χ (stT T t (rr)) σ) 0 0 (geB g) := by
  refine j_metW (by decide) (Nat.le_of_ble_eq_true rfl) fun p e s m below meth c C hname => ?_
  rw [f_X7_start] at h
  exact j_sub [0, 1, 2] rfl (t_X7_start_0 C ht τ a1 a2 h)
theorem cc_X7_start {l : Launch} {g : Gc} {ad : Nat → Nat → Nat} {χ : Mem} {T : Nat → Mem} {σ : Mem} {t : Nat} {a1 : Int32} {a2 : Int32} (ht : t < 3) {rr : Mem} (h : f_X7_start (T t) a1 a2 = some rr) : Met l yX7_start (WS yX7_start cX7_start 4 none) rm_X7_start (PreW g ad χ T σ [.ref (ad 9 t), .int a1, .int a2]) (PoV g ad χ (stT T t (rr)) σ) 0 0 (geB g) := by
  have k := c_X7_start (l := l) (g := g) (ad := ad) (χ := χ) (T := T) (σ := σ) ht h
  rw [stT_self] at k
  exact k
set_option maxRecDepth 100000 in
set_option maxHeartbeats 4000000 in
theorem t_X7_openRow_2 {T : Nat → Mem} {σ : Mem} {t : Nat} {χ : Mem} {τ : Mem} (C : Cx p s m args meth c cX7_openRow 3 RX7 (some .int) COM g) (ht : t < 3) {rr : Int32} : ∀ (n : Nat) (v1 : Int32) (v2 : Int32) (h : f_X7_openRow_2 τ n v1 v2 = some rr), JJ p l e rm_X7_openRow s m args below meth c 3 g ad (MQ below (PoI g ad χ (stT T t τ) σ rr) args s 0 0 (geB g)) χ (stT T t τ) σ 0 0 [(0, .ref (ad 9 t)), (1, .int v1), (2, .int v2)] 2 [] := by
  intro n
  induction n with
  | zero => intro v1 v2  h; cases h
  | succ n ih =>
  intro v1 v2  h
  rw [f_X7_openRow_2] at h
  refine j_iload_n C 2 rfl rfl dX7_openRow_2 ?_
  refine j_aload_n C 0 rfl rfl dX7_openRow_3 ?_
  refine j_getG C in_X7 (by decide) (cwT_9 ht) rfl 5 (by decide) mw_169 (fun _ h => h) rfl dX7_openRow_4 ?_
  refine j_icmp_ge (tgt := 40) C (by decide) dX7_openRow_7 (fun hc1 => ?_) (fun hc1 => ?_)
  · replace h := (if_pos hc1).symm.trans h
    refine j_iconst (v := -1) C (by decide) dX7_openRow_40 ?_
    obtain rfl := Option.some.inj h
    exact j_iret C rfl rfl (Nat.le_refl _) (Nat.le_refl _) dX7_openRow_41
  · replace h := (if_neg hc1).symm.trans h
    refine j_aload_n C 0 rfl rfl dX7_openRow_10 ?_
    refine j_getG C in_X7 (by decide) (cwT_9 ht) rfl 1 (by decide) mw_165 (fun _ h => h) rfl dX7_openRow_11 ?_
    refine j_iload_n C 2 rfl rfl dX7_openRow_14 ?_
    obtain ⟨hg2, h⟩ := gd_some h
    refine j_zald C (by decide) (cwT_12 ht) hg2 dX7_openRow_15 ?_
    refine j_if_ne (tgt := 34) C (by decide) dX7_openRow_16 (fun hc3 => ?_) (fun hc3 => ?_)
    · replace h := (if_neg hc3).symm.trans h
      refine j_iinc (v := v2 + (1 : Int32)) (L' := [(2, .int (v2 + (1 : Int32))), (0, .ref (ad 9 t)), (1, .int v1)]) C 2 rfl rfl (by decide) rfl dX7_openRow_34 ?_
      refine j_goto (tgt := 2) C (by decide) dX7_openRow_37 ?_
      exact j_sub [1, 2, 0] rfl (ih v1 (v2 + (1 : Int32)) h)
    · replace h := (if_pos hc3).symm.trans h
      refine j_aload_n C 0 rfl rfl dX7_openRow_19 ?_
      refine j_getG C in_X7 (by decide) (cwT_9 ht) rfl 0 (by decide) mw_164 (fun _ h => h) rfl dX7_openRow_20 ?_
      refine j_iload_n C 2 rfl rfl dX7_openRow_23 ?_
      refine j_tabrow C ht hg2 dX7_openRow_24 ?_
      refine j_iload_n C 1 rfl rfl dX7_openRow_25 ?_
      obtain ⟨hg4, h⟩ := gd_some h
      refine j_lald C (by decide) (cwT_11 ht (inB_lt hg2)) hg4 dX7_openRow_26 ?_
      refine j_lconst (v := 0) C (by decide) dX7_openRow_27 ?_
      refine j_lcmp_eq (tgt := 34) C dX7_openRow_29 (by decide) dX7_openRow_28 (fun hc5 => ?_) (fun hc5 => ?_)
      · replace h := (if_pos hc5).symm.trans h
        refine j_iinc (v := v2 + (1 : Int32)) (L' := [(2, .int (v2 + (1 : Int32))), (0, .ref (ad 9 t)), (1, .int v1)]) C 2 rfl rfl (by decide) rfl dX7_openRow_34 ?_
        refine j_goto (tgt := 2) C (by decide) dX7_openRow_37 ?_
        exact j_sub [1, 2, 0] rfl (ih v1 (v2 + (1 : Int32)) h)
      · replace h := (if_neg hc5).symm.trans h
        refine j_iload_n C 2 rfl rfl dX7_openRow_32 ?_
        obtain rfl := Option.some.inj h
        exact j_iret C rfl rfl (Nat.le_refl _) (Nat.le_refl _) dX7_openRow_33
set_option maxRecDepth 100000 in
set_option maxHeartbeats 4000000 in
theorem t_X7_openRow_0 {T : Nat → Mem} {σ : Mem} {t : Nat} {χ : Mem} {τ : Mem} (C : Cx p s m args meth c cX7_openRow 3 RX7 (some .int) COM g) (ht : t < 3) {rr : Int32} (a1 : Int32) (h : f_X7_openRow_0 τ a1 = some rr) : JJ p l e rm_X7_openRow s m args below meth c 3 g ad (MQ below (PoI g ad χ (stT T t τ) σ rr) args s 0 0 (geB g)) χ (stT T t τ) σ 0 0 [(0, .ref (ad 9 t)), (1, .int a1)] 0 [] := by
  rw [f_X7_openRow_0] at h
  refine j_iconst (v := 0) C (by decide) dX7_openRow_0 ?_
  refine j_istore_n (L' := [(2, .int (0 : Int32)), (0, .ref (ad 9 t)), (1, .int a1)]) C rfl (by decide) rfl dX7_openRow_1 ?_
  exact j_sub [1, 2, 0] rfl (t_X7_openRow_2 C ht FU a1 (0 : Int32) h)
set_option maxRecDepth 100000 in
set_option maxHeartbeats 4000000 in
theorem c_X7_openRow {l : Launch} {g : Gc} {ad : Nat → Nat → Nat} {χ : Mem} {T : Nat → Mem} {σ : Mem} {τ : Mem} {t : Nat} {a1 : Int32} (ht : t < 3) {rr : Int32} (h : f_X7_openRow τ a1 = some rr) : Met l yX7_openRow (WS yX7_openRow cX7_openRow 3 (some .int)) rm_X7_openRow (PreW g ad χ (stT T t τ) σ [.ref (ad 9 t), .int a1]) (PoI g ad χ (stT T t τ) σ rr) 0 0 (geB g) := by
  refine j_metW (by decide) (Nat.le_of_ble_eq_true rfl) fun p e s m below meth c C hname => ?_
  rw [f_X7_openRow] at h
  exact j_sub [0, 1] rfl (t_X7_openRow_0 C ht a1 h)
theorem cc_X7_openRow {l : Launch} {g : Gc} {ad : Nat → Nat → Nat} {χ : Mem} {T : Nat → Mem} {σ : Mem} {t : Nat} {a1 : Int32} (ht : t < 3) {rr : Int32} (h : f_X7_openRow (T t) a1 = some rr) : Met l yX7_openRow (WS yX7_openRow cX7_openRow 3 (some .int)) rm_X7_openRow (PreW g ad χ T σ [.ref (ad 9 t), .int a1]) (PoI g ad χ T σ rr) 0 0 (geB g) := by
  have k := c_X7_openRow (l := l) (g := g) (ad := ad) (χ := χ) (T := T) (σ := σ) ht h
  rw [stT_self] at k
  exact k
set_option maxRecDepth 100000 in
set_option maxHeartbeats 4000000 in
theorem t_X7_makeAboveNought_11 {T : Nat → Mem} {σ : Mem} {t : Nat} {χ : Mem} (C : Cx p s m args meth c cX7_makeAboveNought 4 RX7 none COM g) (ht : t < 3) {rr : Mem} : ∀ (n : Nat) (τ : Mem) (v1 : Nat) (v3 : Int32) (hv1 : v1 < 15) (h : f_X7_makeAboveNought_11 n τ v1 v3 = some rr), JJ p l e rm_X7_makeAboveNought s m args below meth c 4 g ad (MQ below (PoV g ad χ (stT T t (rr)) σ) args s 0 0 (geB g)) χ (stT T t τ) σ 0 0 [(0, .ref (ad 9 t)), (1, .ref (ad 11 (15 * t + v1))), (3, .int v3)] 11 [] := by
  intro n
  induction n with
  | zero => intro τ v1 v3 hv1 h; cases h
  | succ n ih =>
  intro τ v1 v3 hv1 h
  rw [f_X7_makeAboveNought_11] at h
  refine j_iload_n C 2 rfl rfl dX7_makeAboveNought_11 ?_
  refine j_aload_n C 0 rfl rfl dX7_makeAboveNought_12 ?_
  refine j_getG C in_X7 (by decide) (cwT_9 ht) rfl 6 (by decide) mw_170 (fun _ h => h) rfl dX7_makeAboveNought_13 ?_
  refine j_icmp_gt (tgt := 32) C (by decide) dX7_makeAboveNought_16 (fun hc1 => ?_) (fun hc1 => ?_)
  · replace h := (if_pos hc1).symm.trans h
    obtain rfl := Option.some.inj h
    exact j_vret C rfl (Nat.le_refl _) (Nat.le_refl _) dX7_makeAboveNought_32
  · replace h := (if_neg hc1).symm.trans h
    refine j_aload_n C 1 rfl rfl dX7_makeAboveNought_19 ?_
    refine j_iload_n C 2 rfl rfl dX7_makeAboveNought_20 ?_
    refine j_aload_n C 1 rfl rfl dX7_makeAboveNought_21 ?_
    refine j_iload_n C 2 rfl rfl dX7_makeAboveNought_22 ?_
    obtain ⟨hg2, h⟩ := gd_some h
    refine j_lald C (by decide) (cwT_11 ht hv1) hg2 dX7_makeAboveNought_23 ?_
    refine j_lneg C dX7_makeAboveNought_24 ?_
    refine j_lastP C (by decide) (po_row ht hv1 v3.toNatClampNeg (-(gL τ v1 v3.toNatClampNeg))) hg2 dX7_makeAboveNought_25 ?_
    refine j_iinc (v := v3 + (1 : Int32)) (L' := [(3, .int (v3 + (1 : Int32))), (0, .ref (ad 9 t)), (1, .ref (ad 11 (15 * t + v1)))]) C 2 rfl rfl (by decide) rfl dX7_makeAboveNought_26 ?_
    refine j_goto (tgt := 11) C (by decide) dX7_makeAboveNought_29 ?_
    exact j_sub [1, 2, 0] rfl (ih (wL τ v1 v3.toNatClampNeg (-(gL τ v1 v3.toNatClampNeg))) v1 (v3 + (1 : Int32)) hv1 h)
set_option maxRecDepth 100000 in
set_option maxHeartbeats 4000000 in
theorem t_X7_makeAboveNought_0 {T : Nat → Mem} {σ : Mem} {t : Nat} {χ : Mem} (C : Cx p s m args meth c cX7_makeAboveNought 4 RX7 none COM g) (ht : t < 3) {rr : Mem} (τ : Mem) (a1 : Nat) (a2 : Int32) (ha1 : a1 < 15) (h : f_X7_makeAboveNought_0 τ a1 a2 = some rr) : JJ p l e rm_X7_makeAboveNought s m args below meth c 4 g ad (MQ below (PoV g ad χ (stT T t (rr)) σ) args s 0 0 (geB g)) χ (stT T t τ) σ 0 0 [(0, .ref (ad 9 t)), (1, .ref (ad 11 (15 * t + a1))), (2, .int a2)] 0 [] := by
  rw [f_X7_makeAboveNought_0] at h
  refine j_aload_n C 1 rfl rfl dX7_makeAboveNought_0 ?_
  refine j_iload_n C 2 rfl rfl dX7_makeAboveNought_1 ?_
  obtain ⟨hg1, h⟩ := gd_some h
  refine j_lald C (by decide) (cwT_11 ht ha1) hg1 dX7_makeAboveNought_2 ?_
  refine j_lconst (v := 0) C (by decide) dX7_makeAboveNought_3 ?_
  refine j_lcmp_le (tgt := 9) C dX7_makeAboveNought_5 (by decide) dX7_makeAboveNought_4 (fun hc2 => ?_) (fun hc2 => ?_)
  · replace h := (if_pos hc2).symm.trans h
    refine j_iconst (v := 0) C (by decide) dX7_makeAboveNought_9 ?_
    refine j_istore_n (L' := [(3, .int (0 : Int32)), (0, .ref (ad 9 t)), (1, .ref (ad 11 (15 * t + a1))), (2, .int a2)]) C rfl (by decide) rfl dX7_makeAboveNought_10 ?_
    exact j_sub [1, 2, 0] rfl (t_X7_makeAboveNought_11 C ht FU τ a1 (0 : Int32) ha1 h)
  · replace h := (if_neg hc2).symm.trans h
    obtain rfl := Option.some.inj h
    exact j_vret C rfl (Nat.le_refl _) (Nat.le_refl _) dX7_makeAboveNought_8
set_option maxRecDepth 100000 in
set_option maxHeartbeats 4000000 in
theorem c_X7_makeAboveNought {l : Launch} {g : Gc} {ad : Nat → Nat → Nat} {χ : Mem} {T : Nat → Mem} {σ : Mem} {τ : Mem} {t : Nat} {a1 : Nat} {a2 : Int32} (ht : t < 3) (ha1 : a1 < 15) {rr : Mem} (h : f_X7_makeAboveNought τ a1 a2 = some rr) : Met l yX7_makeAboveNought (WS yX7_makeAboveNought cX7_makeAboveNought 4 none) rm_X7_makeAboveNought (PreW g ad χ (stT T t τ) σ [.ref (ad 9 t), .ref (ad 11 (15 * t + a1)), .int a2]) (PoV g ad χ (stT T t (rr)) σ) 0 0 (geB g) := by
  refine j_metW (by decide) (Nat.le_of_ble_eq_true rfl) fun p e s m below meth c C hname => ?_
  rw [f_X7_makeAboveNought] at h
  exact j_sub [0, 1, 2] rfl (t_X7_makeAboveNought_0 C ht τ a1 a2 ha1 h)
theorem cc_X7_makeAboveNought {l : Launch} {g : Gc} {ad : Nat → Nat → Nat} {χ : Mem} {T : Nat → Mem} {σ : Mem} {t : Nat} {a1 : Nat} {a2 : Int32} (ht : t < 3) (ha1 : a1 < 15) {rr : Mem} (h : f_X7_makeAboveNought (T t) a1 a2 = some rr) : Met l yX7_makeAboveNought (WS yX7_makeAboveNought cX7_makeAboveNought 4 none) rm_X7_makeAboveNought (PreW g ad χ T σ [.ref (ad 9 t), .ref (ad 11 (15 * t + a1)), .int a2]) (PoV g ad χ (stT T t (rr)) σ) 0 0 (geB g) := by
  have k := c_X7_makeAboveNought (l := l) (g := g) (ad := ad) (χ := χ) (T := T) (σ := σ) ht ha1 h
  rw [stT_self] at k
  exact k
set_option maxRecDepth 100000 in
set_option maxHeartbeats 4000000 in
theorem t_X7_takeOff_38 {T : Nat → Mem} {σ : Mem} {t : Nat} {χ : Mem} (C : Cx p s m args meth c cX7_takeOff 11 RX7 none COM g) (ht : t < 3) {rr : Mem} : ∀ (n : Nat) (τ : Mem) (v1 : Nat) (v2 : Nat) (v6 : Int64) (v8 : Int64) (v10 : Int32) (hv1 : v1 < 15) (hv2 : v2 < 15) (h : f_X7_takeOff_38 n τ v1 v2 v6 v8 v10 = some rr), JJ p l e rm_X7_takeOff s m args below meth c 11 g ad (MQ below (PoV g ad χ (stT T t (rr)) σ) args s 0 0 (geB g)) χ (stT T t τ) σ 0 0 [(0, .ref (ad 9 t)), (1, .ref (ad 11 (15 * t + v1))), (2, .ref (ad 11 (15 * t + v2))), (6, .long v6), (8, .long v8), (10, .int v10)] 38 [] := by
  intro n
  induction n with
  | zero => intro τ v1 v2 v6 v8 v10 hv1 hv2 h; cases h
  | succ n ih =>
  intro τ v1 v2 v6 v8 v10 hv1 hv2 h
  rw [f_X7_takeOff_38] at h
  refine j_iload C 5 rfl dX7_takeOff_38 ?_
  refine j_aload_n C 0 rfl rfl dX7_takeOff_40 ?_
  refine j_getG C in_X7 (by decide) (cwT_9 ht) rfl 6 (by decide) mw_170 (fun _ h => h) rfl dX7_takeOff_41 ?_
  refine j_icmp_gt (tgt := 72) C (by decide) dX7_takeOff_44 (fun hc1 => ?_) (fun hc1 => ?_)
  · replace h := (if_pos hc1).symm.trans h
    obtain rfl := Option.some.inj h
    exact j_vret C rfl (Nat.le_refl _) (Nat.le_refl _) dX7_takeOff_72
  · replace h := (if_neg hc1).symm.trans h
    refine j_aload_n C 1 rfl rfl dX7_takeOff_47 ?_
    refine j_iload C 5 rfl dX7_takeOff_48 ?_
    refine j_lload C 3 rfl dX7_takeOff_50 ?_
    refine j_aload_n C 1 rfl rfl dX7_takeOff_52 ?_
    refine j_iload C 5 rfl dX7_takeOff_53 ?_
    obtain ⟨hg2, h⟩ := gd_some h
    refine j_lald C (by decide) (cwT_11 ht hv1) hg2 dX7_takeOff_55 ?_
    refine j_lmul C dX7_takeOff_56 ?_
    refine j_lload C 4 rfl dX7_takeOff_57 ?_
    refine j_aload_n C 2 rfl rfl dX7_takeOff_59 ?_
    refine j_iload C 5 rfl dX7_takeOff_60 ?_
    refine j_lald C (by decide) (cwT_11 ht hv2) hg2 dX7_takeOff_62 ?_
    refine j_lmul C dX7_takeOff_63 ?_
    refine j_lsub C dX7_takeOff_64 ?_
    refine j_lastP C (by decide) (po_row ht hv1 v10.toNatClampNeg ((v6 * (gL τ v1 v10.toNatClampNeg)) - (v8 * (gL τ v2 v10.toNatClampNeg)))) hg2 dX7_takeOff_65 ?_
    refine j_iinc (v := v10 + (1 : Int32)) (L' := [(10, .int (v10 + (1 : Int32))), (0, .ref (ad 9 t)), (1, .ref (ad 11 (15 * t + v1))), (2, .ref (ad 11 (15 * t + v2))), (6, .long v6), (8, .long v8)]) C 5 rfl rfl (by decide) rfl dX7_takeOff_66 ?_
    refine j_goto (tgt := 38) C (by decide) dX7_takeOff_69 ?_
    exact j_sub [1, 2, 3, 4, 5, 0] rfl (ih (wL τ v1 v10.toNatClampNeg ((v6 * (gL τ v1 v10.toNatClampNeg)) - (v8 * (gL τ v2 v10.toNatClampNeg)))) v1 v2 v6 v8 (v10 + (1 : Int32)) hv1 hv2 h)
set_option maxRecDepth 100000 in
set_option maxHeartbeats 4000000 in
theorem t_X7_takeOff_0 {T : Nat → Mem} {σ : Mem} {t : Nat} {χ : Mem} (C : Cx p s m args meth c cX7_takeOff 11 RX7 none COM g) (ht : t < 3) {rr : Mem} (τ : Mem) (a1 : Nat) (a2 : Nat) (a3 : Int32) (ha1 : a1 < 15) (ha2 : a2 < 15) (h : f_X7_takeOff_0 τ a1 a2 a3 = some rr) : JJ p l e rm_X7_takeOff s m args below meth c 11 g ad (MQ below (PoV g ad χ (stT T t (rr)) σ) args s 0 0 (geB g)) χ (stT T t τ) σ 0 0 [(0, .ref (ad 9 t)), (1, .ref (ad 11 (15 * t + a1))), (2, .ref (ad 11 (15 * t + a2))), (3, .int a3)] 0 [] := by
  rw [f_X7_takeOff_0] at h
  refine j_aload_n C 2 rfl rfl dX7_takeOff_0 ?_
  refine j_iload_n C 3 rfl rfl dX7_takeOff_1 ?_
  obtain ⟨hg1, h⟩ := gd_some h
  refine j_lald C (by decide) (cwT_11 ht ha2) hg1 dX7_takeOff_2 ?_
  refine j_aload_n C 1 rfl rfl dX7_takeOff_3 ?_
  refine j_iload_n C 3 rfl rfl dX7_takeOff_4 ?_
  refine j_lald C (by decide) (cwT_11 ht ha1) hg1 dX7_takeOff_5 ?_
  obtain ⟨q2, hq2, h⟩ := bi_some h
  refine j_callSl (As := [.long (gL τ a2 a3.toNatClampNeg), .long (gL τ a1 a3.toNatClampNeg)]) (rest := []) C (c_X7_commonDivisor hq2) (va_cwS 2 C.ts (good_S mw_497 mw_498 mw_69 mw_499) rfl rfl rfl (by decide +kernel) ⟨Nat.le_of_ble_eq_true rfl, Nat.le_of_ble_eq_true rfl⟩) rfl rfl (Nat.le_of_ble_eq_true rfl) dX7_takeOff_6 ⟨Nat.le_of_ble_eq_true rfl, Nat.le_of_ble_eq_true rfl⟩ ?_
  refine j_lstore (L' := [(4, .long q2), (0, .ref (ad 9 t)), (1, .ref (ad 11 (15 * t + a1))), (2, .ref (ad 11 (15 * t + a2))), (3, .int a3)]) C (by decide) rfl dX7_takeOff_9 ?_
  refine j_lload C 0 rfl dX7_takeOff_11 ?_
  refine j_lconst (v := 0) C (by decide) dX7_takeOff_13 ?_
  refine j_lcmp_ne (tgt := 19) C dX7_takeOff_15 (by decide) dX7_takeOff_14 (fun hc3 => ?_) (fun hc3 => ?_)
  · replace h := (if_neg hc3).symm.trans h
    refine j_aload_n C 3 rfl rfl dX7_takeOff_19 ?_
    refine j_iload_n C 4 rfl rfl dX7_takeOff_20 ?_
    refine j_lald C (by decide) (cwT_11 ht ha2) hg1 dX7_takeOff_21 ?_
    refine j_lload C 0 rfl dX7_takeOff_22 ?_
    obtain ⟨hg4, h⟩ := gz_some h
    refine j_ldiv C hg4 dX7_takeOff_24 ?_
    refine j_lstore (L' := [(6, .long ((gL τ a2 a3.toNatClampNeg) / q2)), (4, .long q2), (0, .ref (ad 9 t)), (1, .ref (ad 11 (15 * t + a1))), (2, .ref (ad 11 (15 * t + a2))), (3, .int a3)]) C (by decide) rfl dX7_takeOff_25 ?_
    refine j_aload_n C 3 rfl rfl dX7_takeOff_27 ?_
    refine j_iload_n C 5 rfl rfl dX7_takeOff_28 ?_
    refine j_lald C (by decide) (cwT_11 ht ha1) hg1 dX7_takeOff_29 ?_
    refine j_lload C 1 rfl dX7_takeOff_30 ?_
    refine j_ldiv C hg4 dX7_takeOff_32 ?_
    refine j_lstore (L' := [(8, .long ((gL τ a1 a3.toNatClampNeg) / q2)), (6, .long ((gL τ a2 a3.toNatClampNeg) / q2)), (4, .long q2), (0, .ref (ad 9 t)), (1, .ref (ad 11 (15 * t + a1))), (2, .ref (ad 11 (15 * t + a2))), (3, .int a3)]) C (by decide) rfl dX7_takeOff_33 ?_
    refine j_iconst (v := 0) C (by decide) dX7_takeOff_35 ?_
    refine j_istore (L' := [(10, .int (0 : Int32)), (8, .long ((gL τ a1 a3.toNatClampNeg) / q2)), (6, .long ((gL τ a2 a3.toNatClampNeg) / q2)), (4, .long q2), (0, .ref (ad 9 t)), (1, .ref (ad 11 (15 * t + a1))), (2, .ref (ad 11 (15 * t + a2))), (3, .int a3)]) C (by decide) rfl dX7_takeOff_36 ?_
    exact j_sub [4, 5, 6, 2, 1, 0] rfl (t_X7_takeOff_38 C ht FU τ a1 a2 ((gL τ a2 a3.toNatClampNeg) / q2) ((gL τ a1 a3.toNatClampNeg) / q2) (0 : Int32) ha1 ha2 h)
  · replace h := (if_pos hc3).symm.trans h
    obtain rfl := Option.some.inj h
    exact j_vret C rfl (Nat.le_refl _) (Nat.le_refl _) dX7_takeOff_18
set_option maxRecDepth 100000 in
set_option maxHeartbeats 4000000 in
theorem c_X7_takeOff {l : Launch} {g : Gc} {ad : Nat → Nat → Nat} {χ : Mem} {T : Nat → Mem} {σ : Mem} {τ : Mem} {t : Nat} {a1 : Nat} {a2 : Nat} {a3 : Int32} (ht : t < 3) (ha1 : a1 < 15) (ha2 : a2 < 15) {rr : Mem} (h : f_X7_takeOff τ a1 a2 a3 = some rr) : Met l yX7_takeOff (WS yX7_takeOff cX7_takeOff 11 none) rm_X7_takeOff (PreW g ad χ (stT T t τ) σ [.ref (ad 9 t), .ref (ad 11 (15 * t + a1)), .ref (ad 11 (15 * t + a2)), .int a3]) (PoV g ad χ (stT T t (rr)) σ) 0 0 (geB g) := by
  refine j_metW (by decide) (Nat.le_of_ble_eq_true rfl) fun p e s m below meth c C hname => ?_
  rw [f_X7_takeOff] at h
  exact j_sub [0, 1, 2, 3] rfl (t_X7_takeOff_0 C ht τ a1 a2 a3 ha1 ha2 h)
theorem cc_X7_takeOff {l : Launch} {g : Gc} {ad : Nat → Nat → Nat} {χ : Mem} {T : Nat → Mem} {σ : Mem} {t : Nat} {a1 : Nat} {a2 : Nat} {a3 : Int32} (ht : t < 3) (ha1 : a1 < 15) (ha2 : a2 < 15) {rr : Mem} (h : f_X7_takeOff (T t) a1 a2 a3 = some rr) : Met l yX7_takeOff (WS yX7_takeOff cX7_takeOff 11 none) rm_X7_takeOff (PreW g ad χ T σ [.ref (ad 9 t), .ref (ad 11 (15 * t + a1)), .ref (ad 11 (15 * t + a2)), .int a3]) (PoV g ad χ (stT T t (rr)) σ) 0 0 (geB g) := by
  have k := c_X7_takeOff (l := l) (g := g) (ad := ad) (χ := χ) (T := T) (σ := σ) ht ha1 ha2 h
  rw [stT_self] at k
  exact k
set_option maxRecDepth 100000 in
set_option maxHeartbeats 4000000 in
theorem t_X7_shrink_47 {T : Nat → Mem} {σ : Mem} {t : Nat} {χ : Mem} (C : Cx p s m args meth c cX7_shrink 5 RX7 none COM g) (ht : t < 3) {rr : Mem} : ∀ (n : Nat) (τ : Mem) (v1 : Nat) (v2 : Int64) (v4 : Int32) (hv1 : v1 < 15) (h : f_X7_shrink_47 n τ v1 v2 v4 = some rr), JJ p l e rm_X7_shrink s m args below meth c 5 g ad (MQ below (PoV g ad χ (stT T t (rr)) σ) args s 0 0 (geB g)) χ (stT T t τ) σ 0 0 [(0, .ref (ad 9 t)), (1, .ref (ad 11 (15 * t + v1))), (2, .long v2), (4, .int v4)] 47 [] := by
  intro n
  induction n with
  | zero => intro τ v1 v2 v4 hv1 h; cases h
  | succ n ih =>
  intro τ v1 v2 v4 hv1 h
  rw [f_X7_shrink_47] at h
  refine j_iload C 3 rfl dX7_shrink_47 ?_
  refine j_aload_n C 0 rfl rfl dX7_shrink_49 ?_
  refine j_getG C in_X7 (by decide) (cwT_9 ht) rfl 6 (by decide) mw_170 (fun _ h => h) rfl dX7_shrink_50 ?_
  refine j_icmp_gt (tgt := 70) C (by decide) dX7_shrink_53 (fun hc1 => ?_) (fun hc1 => ?_)
  · replace h := (if_pos hc1).symm.trans h
    obtain rfl := Option.some.inj h
    exact j_vret C rfl (Nat.le_refl _) (Nat.le_refl _) dX7_shrink_70
  · replace h := (if_neg hc1).symm.trans h
    refine j_aload_n C 1 rfl rfl dX7_shrink_56 ?_
    refine j_iload C 3 rfl dX7_shrink_57 ?_
    refine j_dup2 C rfl rfl dX7_shrink_59 ?_
    obtain ⟨hg2, h⟩ := gd_some h
    refine j_lald C (by decide) (cwT_11 ht hv1) hg2 dX7_shrink_60 ?_
    refine j_lload_n C 2 rfl rfl dX7_shrink_61 ?_
    obtain ⟨hg3, h⟩ := gz_some h
    refine j_ldiv C hg3 dX7_shrink_62 ?_
    refine j_lastP C (by decide) (po_row ht hv1 v4.toNatClampNeg ((gL τ v1 v4.toNatClampNeg) / v2)) hg2 dX7_shrink_63 ?_
    refine j_iinc (v := v4 + (1 : Int32)) (L' := [(4, .int (v4 + (1 : Int32))), (0, .ref (ad 9 t)), (1, .ref (ad 11 (15 * t + v1))), (2, .long v2)]) C 3 rfl rfl (by decide) rfl dX7_shrink_64 ?_
    refine j_goto (tgt := 47) C (by decide) dX7_shrink_67 ?_
    exact j_sub [1, 2, 3, 0] rfl (ih (wL τ v1 v4.toNatClampNeg ((gL τ v1 v4.toNatClampNeg) / v2)) v1 v2 (v4 + (1 : Int32)) hv1 h)
set_option maxRecDepth 100000 in
set_option maxHeartbeats 4000000 in
theorem t_X7_shrink_35 {T : Nat → Mem} {σ : Mem} {t : Nat} {χ : Mem} (C : Cx p s m args meth c cX7_shrink 5 RX7 none COM g) (ht : t < 3) {rr : Mem} (τ : Mem) (v1 : Nat) (v2 : Int64) (hv1 : v1 < 15) (h : f_X7_shrink_35 τ v1 v2 = some rr) : JJ p l e rm_X7_shrink s m args below meth c 5 g ad (MQ below (PoV g ad χ (stT T t (rr)) σ) args s 0 0 (geB g)) χ (stT T t τ) σ 0 0 [(0, .ref (ad 9 t)), (1, .ref (ad 11 (15 * t + v1))), (2, .long v2)] 35 [] := by
  rw [f_X7_shrink_35] at h
  refine j_lload_n C 2 rfl rfl dX7_shrink_35 ?_
  refine j_ldc2 (v := 2) C mw_507 dX7_shrink_36 ?_
  refine j_lcmp_ge (tgt := 44) C dX7_shrink_40 (by decide) dX7_shrink_39 (fun hc1 => ?_) (fun hc1 => ?_)
  · replace h := (if_pos hc1).symm.trans h
    refine j_iconst (v := 0) C (by decide) dX7_shrink_44 ?_
    refine j_istore (L' := [(4, .int (0 : Int32)), (0, .ref (ad 9 t)), (1, .ref (ad 11 (15 * t + v1))), (2, .long v2)]) C (by decide) rfl dX7_shrink_45 ?_
    exact j_sub [1, 2, 3, 0] rfl (t_X7_shrink_47 C ht FU τ v1 v2 (0 : Int32) hv1 h)
  · replace h := (if_neg hc1).symm.trans h
    obtain rfl := Option.some.inj h
    exact j_vret C rfl (Nat.le_refl _) (Nat.le_refl _) dX7_shrink_43
set_option maxRecDepth 100000 in
set_option maxHeartbeats 4000000 in
theorem t_X7_shrink_5 {T : Nat → Mem} {σ : Mem} {t : Nat} {χ : Mem} (C : Cx p s m args meth c cX7_shrink 5 RX7 none COM g) (ht : t < 3) {rr : Mem} : ∀ (n : Nat) (τ : Mem) (v1 : Nat) (v2 : Int64) (v4 : Int32) (hv1 : v1 < 15) (h : f_X7_shrink_5 n τ v1 v2 v4 = some rr), JJ p l e rm_X7_shrink s m args below meth c 5 g ad (MQ below (PoV g ad χ (stT T t (rr)) σ) args s 0 0 (geB g)) χ (stT T t τ) σ 0 0 [(0, .ref (ad 9 t)), (1, .ref (ad 11 (15 * t + v1))), (2, .long v2), (4, .int v4)] 5 [] := by
  intro n
  induction n with
  | zero => intro τ v1 v2 v4 hv1 h; cases h
  | succ n ih =>
  intro τ v1 v2 v4 hv1 h
  rw [f_X7_shrink_5] at h
  refine j_iload C 3 rfl dX7_shrink_5 ?_
  refine j_aload_n C 0 rfl rfl dX7_shrink_7 ?_
  refine j_getG C in_X7 (by decide) (cwT_9 ht) rfl 6 (by decide) mw_170 (fun _ h => h) rfl dX7_shrink_8 ?_
  refine j_icmp_gt (tgt := 35) C (by decide) dX7_shrink_11 (fun hc1 => ?_) (fun hc1 => ?_)
  · replace h := (if_pos hc1).symm.trans h
    exact j_sub [0, 1, 2] rfl (t_X7_shrink_35 C ht τ v1 v2 hv1 h)
  · replace h := (if_neg hc1).symm.trans h
    refine j_lload_n C 2 rfl rfl dX7_shrink_14 ?_
    refine j_lconst (v := 1) C (by decide) dX7_shrink_15 ?_
    refine j_lcmp_eq (tgt := 35) C dX7_shrink_17 (by decide) dX7_shrink_16 (fun hc2 => ?_) (fun hc2 => ?_)
    · replace h := (if_pos hc2).symm.trans h
      exact j_sub [0, 1, 2] rfl (t_X7_shrink_35 C ht τ v1 v2 hv1 h)
    · replace h := (if_neg hc2).symm.trans h
      refine j_lload_n C 2 rfl rfl dX7_shrink_20 ?_
      refine j_aload_n C 1 rfl rfl dX7_shrink_21 ?_
      refine j_iload C 3 rfl dX7_shrink_22 ?_
      obtain ⟨hg3, h⟩ := gd_some h
      refine j_lald C (by decide) (cwT_11 ht hv1) hg3 dX7_shrink_24 ?_
      obtain ⟨q4, hq4, h⟩ := bi_some h
      refine j_callSl (As := [.long v2, .long (gL τ v1 v4.toNatClampNeg)]) (rest := []) C (c_X7_commonDivisor hq4) (va_cwS 2 C.ts (good_S mw_497 mw_498 mw_69 mw_499) rfl rfl rfl (by decide +kernel) ⟨Nat.le_of_ble_eq_true rfl, Nat.le_of_ble_eq_true rfl⟩) rfl rfl (Nat.le_of_ble_eq_true rfl) dX7_shrink_25 ⟨Nat.le_of_ble_eq_true rfl, Nat.le_of_ble_eq_true rfl⟩ ?_
      refine j_lstore_n (L' := [(2, .long q4), (0, .ref (ad 9 t)), (1, .ref (ad 11 (15 * t + v1))), (4, .int v4)]) C rfl (by decide) rfl dX7_shrink_28 ?_
      refine j_iinc (v := v4 + (1 : Int32)) (L' := [(4, .int (v4 + (1 : Int32))), (2, .long q4), (0, .ref (ad 9 t)), (1, .ref (ad 11 (15 * t + v1)))]) C 3 rfl rfl (by decide) rfl dX7_shrink_29 ?_
      refine j_goto (tgt := 5) C (by decide) dX7_shrink_32 ?_
      exact j_sub [2, 3, 1, 0] rfl (ih τ v1 q4 (v4 + (1 : Int32)) hv1 h)
set_option maxRecDepth 100000 in
set_option maxHeartbeats 4000000 in
theorem t_X7_shrink_0 {T : Nat → Mem} {σ : Mem} {t : Nat} {χ : Mem} (C : Cx p s m args meth c cX7_shrink 5 RX7 none COM g) (ht : t < 3) {rr : Mem} (τ : Mem) (a1 : Nat) (ha1 : a1 < 15) (h : f_X7_shrink_0 τ a1 = some rr) : JJ p l e rm_X7_shrink s m args below meth c 5 g ad (MQ below (PoV g ad χ (stT T t (rr)) σ) args s 0 0 (geB g)) χ (stT T t τ) σ 0 0 [(0, .ref (ad 9 t)), (1, .ref (ad 11 (15 * t + a1)))] 0 [] := by
  rw [f_X7_shrink_0] at h
  refine j_lconst (v := 0) C (by decide) dX7_shrink_0 ?_
  refine j_lstore_n (L' := [(2, .long (0 : Int64)), (0, .ref (ad 9 t)), (1, .ref (ad 11 (15 * t + a1)))]) C rfl (by decide) rfl dX7_shrink_1 ?_
  refine j_iconst (v := 0) C (by decide) dX7_shrink_2 ?_
  refine j_istore (L' := [(4, .int (0 : Int32)), (2, .long (0 : Int64)), (0, .ref (ad 9 t)), (1, .ref (ad 11 (15 * t + a1)))]) C (by decide) rfl dX7_shrink_3 ?_
  exact j_sub [2, 3, 1, 0] rfl (t_X7_shrink_5 C ht FU τ a1 (0 : Int64) (0 : Int32) ha1 h)
set_option maxRecDepth 100000 in
set_option maxHeartbeats 4000000 in
theorem c_X7_shrink {l : Launch} {g : Gc} {ad : Nat → Nat → Nat} {χ : Mem} {T : Nat → Mem} {σ : Mem} {τ : Mem} {t : Nat} {a1 : Nat} (ht : t < 3) (ha1 : a1 < 15) {rr : Mem} (h : f_X7_shrink τ a1 = some rr) : Met l yX7_shrink (WS yX7_shrink cX7_shrink 5 none) rm_X7_shrink (PreW g ad χ (stT T t τ) σ [.ref (ad 9 t), .ref (ad 11 (15 * t + a1))]) (PoV g ad χ (stT T t (rr)) σ) 0 0 (geB g) := by
  refine j_metW (by decide) (Nat.le_of_ble_eq_true rfl) fun p e s m below meth c C hname => ?_
  rw [f_X7_shrink] at h
  exact j_sub [0, 1] rfl (t_X7_shrink_0 C ht τ a1 ha1 h)
theorem cc_X7_shrink {l : Launch} {g : Gc} {ad : Nat → Nat → Nat} {χ : Mem} {T : Nat → Mem} {σ : Mem} {t : Nat} {a1 : Nat} (ht : t < 3) (ha1 : a1 < 15) {rr : Mem} (h : f_X7_shrink (T t) a1 = some rr) : Met l yX7_shrink (WS yX7_shrink cX7_shrink 5 none) rm_X7_shrink (PreW g ad χ T σ [.ref (ad 9 t), .ref (ad 11 (15 * t + a1))]) (PoV g ad χ (stT T t (rr)) σ) 0 0 (geB g) := by
  have k := c_X7_shrink (l := l) (g := g) (ad := ad) (χ := χ) (T := T) (σ := σ) ht ha1 h
  rw [stT_self] at k
  exact k
set_option maxRecDepth 100000 in
set_option maxHeartbeats 4000000 in
theorem t_X7_clearColumn_2 {T : Nat → Mem} {σ : Mem} {t : Nat} {χ : Mem} (C : Cx p s m args meth c cX7_clearColumn 4 RX7 none COM g) (ht : t < 3) {rr : Mem} : ∀ (n : Nat) (τ : Mem) (v1 : Int32) (v2 : Int32) (v3 : Int32) (h : f_X7_clearColumn_2 n τ v1 v2 v3 = some rr), JJ p l e rm_X7_clearColumn s m args below meth c 4 g ad (MQ below (PoV g ad χ (stT T t (rr)) σ) args s 0 0 (geB g)) χ (stT T t τ) σ 0 0 [(0, .ref (ad 9 t)), (1, .int v1), (2, .int v2), (3, .int v3)] 2 [] := by
  intro n
  induction n with
  | zero => intro τ v1 v2 v3  h; cases h
  | succ n ih =>
  intro τ v1 v2 v3  h
  rw [f_X7_clearColumn_2] at h
  refine j_iload_n C 3 rfl rfl dX7_clearColumn_2 ?_
  refine j_aload_n C 0 rfl rfl dX7_clearColumn_3 ?_
  refine j_getG C in_X7 (by decide) (cwT_9 ht) rfl 5 (by decide) mw_169 (fun _ h => h) rfl dX7_clearColumn_4 ?_
  refine j_icmp_ge (tgt := 61) C (by decide) dX7_clearColumn_7 (fun hc1 => ?_) (fun hc1 => ?_)
  · replace h := (if_pos hc1).symm.trans h
    obtain rfl := Option.some.inj h
    exact j_vret C rfl (Nat.le_refl _) (Nat.le_refl _) dX7_clearColumn_61
  · replace h := (if_neg hc1).symm.trans h
    refine j_iload_n C 3 rfl rfl dX7_clearColumn_10 ?_
    refine j_iload_n C 1 rfl rfl dX7_clearColumn_11 ?_
    refine j_icmp_eq (tgt := 55) C (by decide) dX7_clearColumn_12 (fun hc2 => ?_) (fun hc2 => ?_)
    · replace h := (if_pos hc2).symm.trans h
      refine j_iinc (v := v3 + (1 : Int32)) (L' := [(3, .int (v3 + (1 : Int32))), (0, .ref (ad 9 t)), (1, .int v1), (2, .int v2)]) C 3 rfl rfl (by decide) rfl dX7_clearColumn_55 ?_
      refine j_goto (tgt := 2) C (by decide) dX7_clearColumn_58 ?_
      exact j_sub [1, 2, 3, 0] rfl (ih τ v1 v2 (v3 + (1 : Int32)) h)
    · replace h := (if_neg hc2).symm.trans h
      refine j_aload_n C 0 rfl rfl dX7_clearColumn_15 ?_
      refine j_getG C in_X7 (by decide) (cwT_9 ht) rfl 0 (by decide) mw_164 (fun _ h => h) rfl dX7_clearColumn_16 ?_
      refine j_iload_n C 3 rfl rfl dX7_clearColumn_19 ?_
      obtain ⟨hg3, h⟩ := gd_some h
      refine j_tabrow C ht hg3 dX7_clearColumn_20 ?_
      refine j_iload_n C 2 rfl rfl dX7_clearColumn_21 ?_
      obtain ⟨hg4, h⟩ := gd_some h
      refine j_lald C (by decide) (cwT_11 ht (inB_lt hg3)) hg4 dX7_clearColumn_22 ?_
      refine j_lconst (v := 0) C (by decide) dX7_clearColumn_23 ?_
      refine j_lcmp_eq (tgt := 55) C dX7_clearColumn_25 (by decide) dX7_clearColumn_24 (fun hc5 => ?_) (fun hc5 => ?_)
      · replace h := (if_pos hc5).symm.trans h
        refine j_iinc (v := v3 + (1 : Int32)) (L' := [(3, .int (v3 + (1 : Int32))), (0, .ref (ad 9 t)), (1, .int v1), (2, .int v2)]) C 3 rfl rfl (by decide) rfl dX7_clearColumn_55 ?_
        refine j_goto (tgt := 2) C (by decide) dX7_clearColumn_58 ?_
        exact j_sub [1, 2, 3, 0] rfl (ih τ v1 v2 (v3 + (1 : Int32)) h)
      · replace h := (if_neg hc5).symm.trans h
        refine j_aload_n C 0 rfl rfl dX7_clearColumn_28 ?_
        refine j_aload_n C 0 rfl rfl dX7_clearColumn_29 ?_
        refine j_getG C in_X7 (by decide) (cwT_9 ht) rfl 0 (by decide) mw_164 (fun _ h => h) rfl dX7_clearColumn_30 ?_
        refine j_iload_n C 3 rfl rfl dX7_clearColumn_33 ?_
        refine j_tabrow C ht hg3 dX7_clearColumn_34 ?_
        refine j_aload_n C 0 rfl rfl dX7_clearColumn_35 ?_
        refine j_getG C in_X7 (by decide) (cwT_9 ht) rfl 0 (by decide) mw_164 (fun _ h => h) rfl dX7_clearColumn_36 ?_
        refine j_iload_n C 1 rfl rfl dX7_clearColumn_39 ?_
        obtain ⟨hg6, h⟩ := gd_some h
        refine j_tabrow C ht hg6 dX7_clearColumn_40 ?_
        refine j_iload_n C 2 rfl rfl dX7_clearColumn_41 ?_
        obtain ⟨q7, hq7, h⟩ := bi_some h
        refine j_callVv (As := [.ref (ad 11 (15 * t + v3.toNatClampNeg)), .ref (ad 11 (15 * t + v1.toNatClampNeg)), .int v2]) (rest := []) C (c_X7_takeOff ht (inB_lt hg3) (inB_lt hg6) hq7) (cwV 3 C.ts (good_V mw_493 mw_495 mw_8 mw_69 mw_496) rfl rfl rfl (by decide +kernel) ⟨Nat.le_of_ble_eq_true rfl, Nat.le_of_ble_eq_true rfl⟩) (fun H hW => CW.rv C.k hW (by decide) (cwT_9 ht) rfl) rfl rfl (Nat.le_of_ble_eq_true rfl) dX7_clearColumn_42 ⟨Nat.le_of_ble_eq_true rfl, Nat.le_of_ble_eq_true rfl⟩ ?_
        refine j_aload_n C 0 rfl rfl dX7_clearColumn_45 ?_
        refine j_aload_n C 0 rfl rfl dX7_clearColumn_46 ?_
        refine j_getG C in_X7 (by decide) (cwT_9 ht) rfl 0 (by decide) mw_164 (fun _ h => h) rfl dX7_clearColumn_47 ?_
        refine j_iload_n C 3 rfl rfl dX7_clearColumn_50 ?_
        refine j_tabrow C ht hg3 dX7_clearColumn_51 ?_
        obtain ⟨q8, hq8, h⟩ := bi_some h
        refine j_callVv (As := [.ref (ad 11 (15 * t + v3.toNatClampNeg))]) (rest := []) C (c_X7_shrink ht (inB_lt hg3) hq8) (cwV 1 C.ts (good_V mw_503 mw_505 mw_9 mw_69 mw_506) rfl rfl rfl (by decide +kernel) ⟨Nat.le_of_ble_eq_true rfl, Nat.le_of_ble_eq_true rfl⟩) (fun H hW => CW.rv C.k hW (by decide) (cwT_9 ht) rfl) rfl rfl (Nat.le_of_ble_eq_true rfl) dX7_clearColumn_52 ⟨Nat.le_of_ble_eq_true rfl, Nat.le_of_ble_eq_true rfl⟩ ?_
        refine j_iinc (v := v3 + (1 : Int32)) (L' := [(3, .int (v3 + (1 : Int32))), (0, .ref (ad 9 t)), (1, .int v1), (2, .int v2)]) C 3 rfl rfl (by decide) rfl dX7_clearColumn_55 ?_
        refine j_goto (tgt := 2) C (by decide) dX7_clearColumn_58 ?_
        exact j_sub [1, 2, 3, 0] rfl (ih q8 v1 v2 (v3 + (1 : Int32)) h)
set_option maxRecDepth 100000 in
set_option maxHeartbeats 4000000 in
theorem t_X7_clearColumn_0 {T : Nat → Mem} {σ : Mem} {t : Nat} {χ : Mem} (C : Cx p s m args meth c cX7_clearColumn 4 RX7 none COM g) (ht : t < 3) {rr : Mem} (τ : Mem) (a1 : Int32) (a2 : Int32) (h : f_X7_clearColumn_0 τ a1 a2 = some rr) : JJ p l e rm_X7_clearColumn s m args below meth c 4 g ad (MQ below (PoV g ad χ (stT T t (rr)) σ) args s 0 0 (geB g)) χ (stT T t τ) σ 0 0 [(0, .ref (ad 9 t)), (1, .int a1), (2, .int a2)] 0 [] := by
  rw [f_X7_clearColumn_0] at h
  refine j_iconst (v := 0) C (by decide) dX7_clearColumn_0 ?_
  refine j_istore_n (L' := [(3, .int (0 : Int32)), (0, .ref (ad 9 t)), (1, .int a1), (2, .int a2)]) C rfl (by decide) rfl dX7_clearColumn_1 ?_
  exact j_sub [1, 2, 3, 0] rfl (t_X7_clearColumn_2 C ht FU τ a1 a2 (0 : Int32) h)
set_option maxRecDepth 100000 in
set_option maxHeartbeats 4000000 in
theorem c_X7_clearColumn {l : Launch} {g : Gc} {ad : Nat → Nat → Nat} {χ : Mem} {T : Nat → Mem} {σ : Mem} {τ : Mem} {t : Nat} {a1 : Int32} {a2 : Int32} (ht : t < 3) {rr : Mem} (h : f_X7_clearColumn τ a1 a2 = some rr) : Met l yX7_clearColumn (WS yX7_clearColumn cX7_clearColumn 4 none) rm_X7_clearColumn (PreW g ad χ (stT T t τ) σ [.ref (ad 9 t), .int a1, .int a2]) (PoV g ad χ (stT T t (rr)) σ) 0 0 (geB g) := by
  refine j_metW (by decide) (Nat.le_of_ble_eq_true rfl) fun p e s m below meth c C hname => ?_
  rw [f_X7_clearColumn] at h
  exact j_sub [0, 1, 2] rfl (t_X7_clearColumn_0 C ht τ a1 a2 h)
theorem cc_X7_clearColumn {l : Launch} {g : Gc} {ad : Nat → Nat → Nat} {χ : Mem} {T : Nat → Mem} {σ : Mem} {t : Nat} {a1 : Int32} {a2 : Int32} (ht : t < 3) {rr : Mem} (h : f_X7_clearColumn (T t) a1 a2 = some rr) : Met l yX7_clearColumn (WS yX7_clearColumn cX7_clearColumn 4 none) rm_X7_clearColumn (PreW g ad χ T σ [.ref (ad 9 t), .int a1, .int a2]) (PoV g ad χ (stT T t (rr)) σ) 0 0 (geB g) := by
  have k := c_X7_clearColumn (l := l) (g := g) (ad := ad) (χ := χ) (T := T) (σ := σ) ht h
  rw [stT_self] at k
  exact k
set_option maxRecDepth 100000 in
set_option maxHeartbeats 4000000 in
theorem t_X7_isLoose_0 {T : Nat → Mem} {σ : Mem} {t : Nat} {χ : Mem} {τ : Mem} (C : Cx p s m args meth c cX7_isLoose 2 RX7 (some .boolean) COM g) (ht : t < 3) {rr : Int32} (a1 : Int32) (h : f_X7_isLoose_0 τ a1 = some rr) : JJ p l e rm_X7_isLoose s m args below meth c 2 g ad (MQ below (PoI g ad χ (stT T t τ) σ rr) args s 0 0 (geB g)) χ (stT T t τ) σ 0 0 [(0, .ref (ad 9 t)), (1, .int a1)] 0 [] := by
  rw [f_X7_isLoose_0] at h
  refine j_iload_n C 1 rfl rfl dX7_isLoose_0 ?_
  refine j_if_lt (tgt := 22) C (by decide) dX7_isLoose_1 (fun hc1 => ?_) (fun hc1 => ?_)
  · replace h := (if_pos hc1).symm.trans h
    refine j_iconst (v := 1) C (by decide) dX7_isLoose_22 ?_
    refine j_goto (tgt := 27) C (by decide) dX7_isLoose_23 ?_
    obtain rfl := Option.some.inj h
    exact j_iret C rfl (bo_nar (Or.inr rfl)) (Nat.le_refl _) (Nat.le_refl _) dX7_isLoose_27
  · replace h := (if_neg hc1).symm.trans h
    refine j_iload_n C 1 rfl rfl dX7_isLoose_4 ?_
    refine j_aload_n C 0 rfl rfl dX7_isLoose_5 ?_
    refine j_getG C in_X7 (by decide) (cwT_9 ht) rfl 6 (by decide) mw_170 (fun _ h => h) rfl dX7_isLoose_6 ?_
    refine j_icmp_ge (tgt := 22) C (by decide) dX7_isLoose_9 (fun hc2 => ?_) (fun hc2 => ?_)
    · replace h := (if_pos hc2).symm.trans h
      refine j_iconst (v := 1) C (by decide) dX7_isLoose_22 ?_
      refine j_goto (tgt := 27) C (by decide) dX7_isLoose_23 ?_
      obtain rfl := Option.some.inj h
      exact j_iret C rfl (bo_nar (Or.inr rfl)) (Nat.le_refl _) (Nat.le_refl _) dX7_isLoose_27
    · replace h := (if_neg hc2).symm.trans h
      refine j_aload_n C 0 rfl rfl dX7_isLoose_12 ?_
      refine j_getG C in_X7 (by decide) (cwT_9 ht) rfl 2 (by decide) mw_166 (fun _ h => h) rfl dX7_isLoose_13 ?_
      refine j_iload_n C 1 rfl rfl dX7_isLoose_16 ?_
      obtain ⟨hg3, h⟩ := gd_some h
      refine j_iald C (by decide) (cwT_13 ht) hg3 dX7_isLoose_17 ?_
      refine j_iconst (v := -1) C (by decide) dX7_isLoose_18 ?_
      refine j_icmp_ne (tgt := 26) C (by decide) dX7_isLoose_19 (fun hc4 => ?_) (fun hc4 => ?_)
      · replace h := (if_neg hc4).symm.trans h
        refine j_iconst (v := 0) C (by decide) dX7_isLoose_26 ?_
        obtain rfl := Option.some.inj h
        exact j_iret C rfl (bo_nar (Or.inl rfl)) (Nat.le_refl _) (Nat.le_refl _) dX7_isLoose_27
      · replace h := (if_pos hc4).symm.trans h
        refine j_iconst (v := 1) C (by decide) dX7_isLoose_22 ?_
        refine j_goto (tgt := 27) C (by decide) dX7_isLoose_23 ?_
        obtain rfl := Option.some.inj h
        exact j_iret C rfl (bo_nar (Or.inr rfl)) (Nat.le_refl _) (Nat.le_refl _) dX7_isLoose_27
set_option maxRecDepth 100000 in
set_option maxHeartbeats 4000000 in
theorem c_X7_isLoose {l : Launch} {g : Gc} {ad : Nat → Nat → Nat} {χ : Mem} {T : Nat → Mem} {σ : Mem} {τ : Mem} {t : Nat} {a1 : Int32} (ht : t < 3) {rr : Int32} (h : f_X7_isLoose τ a1 = some rr) : Met l yX7_isLoose (WS yX7_isLoose cX7_isLoose 2 (some .boolean)) rm_X7_isLoose (PreW g ad χ (stT T t τ) σ [.ref (ad 9 t), .int a1]) (PoI g ad χ (stT T t τ) σ rr) 0 0 (geB g) := by
  refine j_metW (by decide) (Nat.le_of_ble_eq_true rfl) fun p e s m below meth c C hname => ?_
  rw [f_X7_isLoose] at h
  exact j_sub [0, 1] rfl (t_X7_isLoose_0 C ht a1 h)
theorem cc_X7_isLoose {l : Launch} {g : Gc} {ad : Nat → Nat → Nat} {χ : Mem} {T : Nat → Mem} {σ : Mem} {t : Nat} {a1 : Int32} (ht : t < 3) {rr : Int32} (h : f_X7_isLoose (T t) a1 = some rr) : Met l yX7_isLoose (WS yX7_isLoose cX7_isLoose 2 (some .boolean)) rm_X7_isLoose (PreW g ad χ T σ [.ref (ad 9 t), .int a1]) (PoI g ad χ T σ rr) 0 0 (geB g) := by
  have k := c_X7_isLoose (l := l) (g := g) (ad := ad) (χ := χ) (T := T) (σ := σ) ht h
  rw [stT_self] at k
  exact k
set_option maxRecDepth 100000 in
set_option maxHeartbeats 4000000 in
theorem t_X7_scaleOf_5 {T : Nat → Mem} {σ : Mem} {t : Nat} {χ : Mem} {τ : Mem} (C : Cx p s m args meth c cX7_scaleOf 6 RX7 (some .long) COM g) (ht : t < 3) {rr : Int64} : ∀ (n : Nat) (v1 : Int32) (v2 : Int64) (v4 : Int32) (h : f_X7_scaleOf_5 τ n v1 v2 v4 = some rr), JJ p l e rm_X7_scaleOf s m args below meth c 6 g ad (MQ below (PoL g ad χ (stT T t τ) σ rr) args s 0 0 (geB g)) χ (stT T t τ) σ 0 0 [(0, .ref (ad 9 t)), (1, .int v1), (2, .long v2), (4, .int v4)] 5 [] := by
  intro n
  induction n with
  | zero => intro v1 v2 v4  h; cases h
  | succ n ih =>
  intro v1 v2 v4  h
  rw [f_X7_scaleOf_5] at h
  refine j_iload C 3 rfl dX7_scaleOf_5 ?_
  refine j_aload_n C 0 rfl rfl dX7_scaleOf_7 ?_
  refine j_getG C in_X7 (by decide) (cwT_9 ht) rfl 6 (by decide) mw_170 (fun _ h => h) rfl dX7_scaleOf_8 ?_
  refine j_icmp_ge (tgt := 60) C (by decide) dX7_scaleOf_11 (fun hc1 => ?_) (fun hc1 => ?_)
  · replace h := (if_pos hc1).symm.trans h
    refine j_lload_n C 2 rfl rfl dX7_scaleOf_60 ?_
    obtain rfl := Option.some.inj h
    exact j_lret C rfl (Nat.le_refl _) (Nat.le_refl _) dX7_scaleOf_61
  · replace h := (if_neg hc1).symm.trans h
    refine j_aload_n C 0 rfl rfl dX7_scaleOf_14 ?_
    refine j_iload C 3 rfl dX7_scaleOf_15 ?_
    obtain ⟨q2, hq2, h⟩ := bi_some h
    refine j_callVi (As := [.int v4]) (rest := []) C (c_X7_isLoose ht hq2) (cwV 1 C.ts (good_V mw_512 mw_513 mw_514 mw_69 mw_515) rfl rfl rfl (by decide +kernel) ⟨Nat.le_of_ble_eq_true rfl, Nat.le_of_ble_eq_true rfl⟩) (fun H hW => CW.rv C.k hW (by decide) (cwT_9 ht) rfl) rfl rfl (Nat.le_of_ble_eq_true rfl) dX7_scaleOf_17 ⟨Nat.le_of_ble_eq_true rfl, Nat.le_of_ble_eq_true rfl⟩ ?_
    refine j_if_ne (tgt := 54) C (by decide) dX7_scaleOf_20 (fun hc3 => ?_) (fun hc3 => ?_)
    · replace h := (if_neg hc3).symm.trans h
      refine j_iinc (v := v4 + (1 : Int32)) (L' := [(4, .int (v4 + (1 : Int32))), (0, .ref (ad 9 t)), (1, .int v1), (2, .long v2)]) C 3 rfl rfl (by decide) rfl dX7_scaleOf_54 ?_
      refine j_goto (tgt := 5) C (by decide) dX7_scaleOf_57 ?_
      exact j_sub [1, 2, 3, 0] rfl (ih v1 v2 (v4 + (1 : Int32)) h)
    · replace h := (if_pos hc3).symm.trans h
      refine j_aload_n C 0 rfl rfl dX7_scaleOf_23 ?_
      refine j_getG C in_X7 (by decide) (cwT_9 ht) rfl 0 (by decide) mw_164 (fun _ h => h) rfl dX7_scaleOf_24 ?_
      refine j_aload_n C 0 rfl rfl dX7_scaleOf_27 ?_
      refine j_getG C in_X7 (by decide) (cwT_9 ht) rfl 2 (by decide) mw_166 (fun _ h => h) rfl dX7_scaleOf_28 ?_
      refine j_iload C 3 rfl dX7_scaleOf_31 ?_
      obtain ⟨hg4, h⟩ := gd_some h
      refine j_iald C (by decide) (cwT_13 ht) hg4 dX7_scaleOf_33 ?_
      obtain ⟨hg5, h⟩ := gd_some h
      refine j_tabrow C ht hg5 dX7_scaleOf_34 ?_
      refine j_astore (L' := [(5, .ref (ad 11 (15 * t + ((gI τ 1 v4.toNatClampNeg).toNatClampNeg)))), (0, .ref (ad 9 t)), (1, .int v1), (2, .long v2), (4, .int v4)]) C (by decide) rfl dX7_scaleOf_35 ?_
      refine j_lload_n C 3 rfl rfl dX7_scaleOf_37 ?_
      refine j_aload C 0 rfl dX7_scaleOf_38 ?_
      refine j_iload_n C 2 rfl rfl dX7_scaleOf_40 ?_
      obtain ⟨hg6, h⟩ := gd_some h
      refine j_lald C (by decide) (cwT_11 ht (inB_lt hg5)) hg6 dX7_scaleOf_41 ?_
      refine j_aload C 0 rfl dX7_scaleOf_42 ?_
      refine j_iload C 4 rfl dX7_scaleOf_44 ?_
      obtain ⟨hg7, h⟩ := gd_some h
      refine j_lald C (by decide) (cwT_11 ht (inB_lt hg5)) hg7 dX7_scaleOf_46 ?_
      obtain ⟨q8, hq8, h⟩ := bi_some h
      refine j_callSl (As := [.long (gL τ ((gI τ 1 v4.toNatClampNeg).toNatClampNeg) v1.toNatClampNeg), .long (gL τ ((gI τ 1 v4.toNatClampNeg).toNatClampNeg) v4.toNatClampNeg)]) (rest := [.long v2]) C (c_X7_lowestBelow hq8) (va_cwS 2 C.ts (good_S mw_516 mw_517 mw_69 mw_518) rfl rfl rfl (by decide +kernel) ⟨Nat.le_of_ble_eq_true rfl, Nat.le_of_ble_eq_true rfl⟩) rfl rfl (Nat.le_of_ble_eq_true rfl) dX7_scaleOf_47 ⟨Nat.le_of_ble_eq_true rfl, Nat.le_of_ble_eq_true rfl⟩ ?_
      obtain ⟨q9, hq9, h⟩ := bi_some h
      refine j_callSl (As := [.long v2, .long q8]) (rest := []) C (c_X7_leastMultiple hq9) (va_cwS 2 C.ts (good_S mw_519 mw_520 mw_69 mw_521) rfl rfl rfl (by decide +kernel) ⟨Nat.le_of_ble_eq_true rfl, Nat.le_of_ble_eq_true rfl⟩) rfl rfl (Nat.le_of_ble_eq_true rfl) dX7_scaleOf_50 ⟨Nat.le_of_ble_eq_true rfl, Nat.le_of_ble_eq_true rfl⟩ ?_
      refine j_lstore_n (L' := [(2, .long q9), (5, .ref (ad 11 (15 * t + ((gI τ 1 v4.toNatClampNeg).toNatClampNeg)))), (0, .ref (ad 9 t)), (1, .int v1), (4, .int v4)]) C rfl (by decide) rfl dX7_scaleOf_53 ?_
      refine j_iinc (v := v4 + (1 : Int32)) (L' := [(4, .int (v4 + (1 : Int32))), (2, .long q9), (5, .ref (ad 11 (15 * t + ((gI τ 1 v4.toNatClampNeg).toNatClampNeg)))), (0, .ref (ad 9 t)), (1, .int v1)]) C 4 rfl rfl (by decide) rfl dX7_scaleOf_54 ?_
      refine j_goto (tgt := 5) C (by decide) dX7_scaleOf_57 ?_
      exact j_sub [3, 4, 1, 0] rfl (ih v1 q9 (v4 + (1 : Int32)) h)
set_option maxRecDepth 100000 in
set_option maxHeartbeats 4000000 in
theorem t_X7_scaleOf_0 {T : Nat → Mem} {σ : Mem} {t : Nat} {χ : Mem} {τ : Mem} (C : Cx p s m args meth c cX7_scaleOf 6 RX7 (some .long) COM g) (ht : t < 3) {rr : Int64} (a1 : Int32) (h : f_X7_scaleOf_0 τ a1 = some rr) : JJ p l e rm_X7_scaleOf s m args below meth c 6 g ad (MQ below (PoL g ad χ (stT T t τ) σ rr) args s 0 0 (geB g)) χ (stT T t τ) σ 0 0 [(0, .ref (ad 9 t)), (1, .int a1)] 0 [] := by
  rw [f_X7_scaleOf_0] at h
  refine j_lconst (v := 1) C (by decide) dX7_scaleOf_0 ?_
  refine j_lstore_n (L' := [(2, .long (1 : Int64)), (0, .ref (ad 9 t)), (1, .int a1)]) C rfl (by decide) rfl dX7_scaleOf_1 ?_
  refine j_iconst (v := 0) C (by decide) dX7_scaleOf_2 ?_
  refine j_istore (L' := [(4, .int (0 : Int32)), (2, .long (1 : Int64)), (0, .ref (ad 9 t)), (1, .int a1)]) C (by decide) rfl dX7_scaleOf_3 ?_
  exact j_sub [2, 3, 1, 0] rfl (t_X7_scaleOf_5 C ht FU a1 (1 : Int64) (0 : Int32) h)
set_option maxRecDepth 100000 in
set_option maxHeartbeats 4000000 in
theorem c_X7_scaleOf {l : Launch} {g : Gc} {ad : Nat → Nat → Nat} {χ : Mem} {T : Nat → Mem} {σ : Mem} {τ : Mem} {t : Nat} {a1 : Int32} (ht : t < 3) {rr : Int64} (h : f_X7_scaleOf τ a1 = some rr) : Met l yX7_scaleOf (WS yX7_scaleOf cX7_scaleOf 6 (some .long)) rm_X7_scaleOf (PreW g ad χ (stT T t τ) σ [.ref (ad 9 t), .int a1]) (PoL g ad χ (stT T t τ) σ rr) 0 0 (geB g) := by
  refine j_metW (by decide) (Nat.le_of_ble_eq_true rfl) fun p e s m below meth c C hname => ?_
  rw [f_X7_scaleOf] at h
  exact j_sub [0, 1] rfl (t_X7_scaleOf_0 C ht a1 h)
theorem cc_X7_scaleOf {l : Launch} {g : Gc} {ad : Nat → Nat → Nat} {χ : Mem} {T : Nat → Mem} {σ : Mem} {t : Nat} {a1 : Int32} (ht : t < 3) {rr : Int64} (h : f_X7_scaleOf (T t) a1 = some rr) : Met l yX7_scaleOf (WS yX7_scaleOf cX7_scaleOf 6 (some .long)) rm_X7_scaleOf (PreW g ad χ T σ [.ref (ad 9 t), .int a1]) (PoL g ad χ T σ rr) 0 0 (geB g) := by
  have k := c_X7_scaleOf (l := l) (g := g) (ad := ad) (χ := χ) (T := T) (σ := σ) ht h
  rw [stT_self] at k
  exact k
set_option maxRecDepth 100000 in
set_option maxHeartbeats 4000000 in
theorem t_X7_reduce_83 {T : Nat → Mem} {σ : Mem} {t : Nat} {χ : Mem} (C : Cx p s m args meth c cX7_reduce 3 RX7 none COM g) (ht : t < 3) {rr : Mem} : ∀ (n : Nat) (τ : Mem) (v1 : Int32) (h : f_X7_reduce_83 n τ v1 = some rr), JJ p l e rm_X7_reduce s m args below meth c 3 g ad (MQ below (PoV g ad χ (stT T t (rr)) σ) args s 0 0 (geB g)) χ (stT T t τ) σ 0 0 [(0, .ref (ad 9 t)), (1, .int v1)] 83 [] := by
  intro n
  induction n with
  | zero => intro τ v1  h; cases h
  | succ n ih =>
  intro τ v1  h
  rw [f_X7_reduce_83] at h
  refine j_iload_n C 1 rfl rfl dX7_reduce_83 ?_
  refine j_aload_n C 0 rfl rfl dX7_reduce_84 ?_
  refine j_getG C in_X7 (by decide) (cwT_9 ht) rfl 7 (by decide) mw_171 (fun _ h => h) rfl dX7_reduce_85 ?_
  refine j_icmp_ge (tgt := 113) C (by decide) dX7_reduce_88 (fun hc1 => ?_) (fun hc1 => ?_)
  · replace h := (if_pos hc1).symm.trans h
    obtain rfl := Option.some.inj h
    exact j_vret C rfl (Nat.le_refl _) (Nat.le_refl _) dX7_reduce_113
  · replace h := (if_neg hc1).symm.trans h
    refine j_aload_n C 0 rfl rfl dX7_reduce_91 ?_
    refine j_getG C in_X7 (by decide) (cwT_9 ht) rfl 4 (by decide) mw_168 (fun _ h => h) rfl dX7_reduce_92 ?_
    refine j_iload_n C 1 rfl rfl dX7_reduce_95 ?_
    refine j_aload_n C 0 rfl rfl dX7_reduce_96 ?_
    refine j_aload_n C 0 rfl rfl dX7_reduce_97 ?_
    refine j_getG C in_X7 (by decide) (cwT_9 ht) rfl 3 (by decide) mw_167 (fun _ h => h) rfl dX7_reduce_98 ?_
    refine j_iload_n C 1 rfl rfl dX7_reduce_101 ?_
    obtain ⟨hg2, h⟩ := gd_some h
    refine j_iald C (by decide) (cwT_14 ht) hg2 dX7_reduce_102 ?_
    obtain ⟨q3, hq3, h⟩ := bi_some h
    refine j_callVl (As := [.int (gI τ 2 v1.toNatClampNeg)]) (rest := [.int v1, .ref (ad 15 t)]) C (c_X7_scaleOf ht hq3) (cwV 1 C.ts (good_V mw_508 mw_510 mw_10 mw_69 mw_511) rfl rfl rfl (by decide +kernel) ⟨Nat.le_of_ble_eq_true rfl, Nat.le_of_ble_eq_true rfl⟩) (fun H hW => CW.rv C.k hW (by decide) (cwT_9 ht) rfl) rfl rfl (Nat.le_of_ble_eq_true rfl) dX7_reduce_103 ⟨Nat.le_of_ble_eq_true rfl, Nat.le_of_ble_eq_true rfl⟩ ?_
    refine j_lastP C (by decide) (po_scales ht v1.toNatClampNeg q3) hg2 dX7_reduce_106 ?_
    refine j_iinc (v := v1 + (1 : Int32)) (L' := [(1, .int (v1 + (1 : Int32))), (0, .ref (ad 9 t))]) C 1 rfl rfl (by decide) rfl dX7_reduce_107 ?_
    refine j_goto (tgt := 83) C (by decide) dX7_reduce_110 ?_
    exact j_sub [1, 0] rfl (ih (wL τ 15 v1.toNatClampNeg q3) (v1 + (1 : Int32)) h)
set_option maxRecDepth 100000 in
set_option maxHeartbeats 4000000 in
theorem t_X7_reduce_2 {T : Nat → Mem} {σ : Mem} {t : Nat} {χ : Mem} (C : Cx p s m args meth c cX7_reduce 3 RX7 none COM g) (ht : t < 3) {rr : Mem} : ∀ (n : Nat) (τ : Mem) (v1 : Int32) (h : f_X7_reduce_2 n τ v1 = some rr), JJ p l e rm_X7_reduce s m args below meth c 3 g ad (MQ below (PoV g ad χ (stT T t (rr)) σ) args s 0 0 (geB g)) χ (stT T t τ) σ 0 0 [(0, .ref (ad 9 t)), (1, .int v1)] 2 [] := by
  intro n
  induction n with
  | zero => intro τ v1  h; cases h
  | succ n ih =>
  intro τ v1  h
  rw [f_X7_reduce_2] at h
  refine j_iload_n C 1 rfl rfl dX7_reduce_2 ?_
  refine j_aload_n C 0 rfl rfl dX7_reduce_3 ?_
  refine j_getG C in_X7 (by decide) (cwT_9 ht) rfl 6 (by decide) mw_170 (fun _ h => h) rfl dX7_reduce_4 ?_
  refine j_icmp_ge (tgt := 81) C (by decide) dX7_reduce_7 (fun hc1 => ?_) (fun hc1 => ?_)
  · replace h := (if_pos hc1).symm.trans h
    refine j_iconst (v := 0) C (by decide) dX7_reduce_81 ?_
    refine j_istore_n (L' := [(1, .int (0 : Int32)), (0, .ref (ad 9 t))]) C rfl (by decide) rfl dX7_reduce_82 ?_
    exact j_sub [1, 0] rfl (t_X7_reduce_83 C ht FU τ (0 : Int32) h)
  · replace h := (if_neg hc1).symm.trans h
    refine j_aload_n C 0 rfl rfl dX7_reduce_10 ?_
    refine j_iload_n C 1 rfl rfl dX7_reduce_11 ?_
    obtain ⟨q2, hq2, h⟩ := bi_some h
    refine j_callVi (As := [.int v1]) (rest := []) C (c_X7_openRow ht hq2) (cwV 1 C.ts (good_V mw_481 mw_483 mw_5 mw_69 mw_484) rfl rfl rfl (by decide +kernel) ⟨Nat.le_of_ble_eq_true rfl, Nat.le_of_ble_eq_true rfl⟩) (fun H hW => CW.rv C.k hW (by decide) (cwT_9 ht) rfl) rfl rfl (Nat.le_of_ble_eq_true rfl) dX7_reduce_12 ⟨Nat.le_of_ble_eq_true rfl, Nat.le_of_ble_eq_true rfl⟩ ?_
    refine j_istore_n (L' := [(2, .int q2), (0, .ref (ad 9 t)), (1, .int v1)]) C rfl (by decide) rfl dX7_reduce_15 ?_
    refine j_aload_n C 1 rfl rfl dX7_reduce_16 ?_
    refine j_getG C in_X7 (by decide) (cwT_9 ht) rfl 2 (by decide) mw_166 (fun _ h => h) rfl dX7_reduce_17 ?_
    refine j_iload_n C 2 rfl rfl dX7_reduce_20 ?_
    refine j_iload_n C 0 rfl rfl dX7_reduce_21 ?_
    obtain ⟨hg3, h⟩ := gd_some h
    refine j_iastP C (by decide) (po_rowOf ht v1.toNatClampNeg q2) hg3 dX7_reduce_22 ?_
    refine j_iload_n C 0 rfl rfl dX7_reduce_23 ?_
    refine j_iconst (v := -1) C (by decide) dX7_reduce_24 ?_
    refine j_icmp_ne (tgt := 51) C (by decide) dX7_reduce_25 (fun hc4 => ?_) (fun hc4 => ?_)
    · replace h := (if_neg hc4).symm.trans h
      refine j_aload_n C 1 rfl rfl dX7_reduce_51 ?_
      refine j_getG C in_X7 (by decide) (cwT_9 ht) rfl 1 (by decide) mw_165 (fun _ h => h) rfl dX7_reduce_52 ?_
      refine j_iload_n C 0 rfl rfl dX7_reduce_55 ?_
      refine j_iconst (v := 1) C (by decide) dX7_reduce_56 ?_
      obtain ⟨hg5, h⟩ := gd_some h
      refine j_zastP C (Or.inr rfl) (by decide) (po_taken ht q2.toNatClampNeg (1 : Int32)) hg5 dX7_reduce_57 ?_
      refine j_aload_n C 1 rfl rfl dX7_reduce_58 ?_
      refine j_aload_n C 1 rfl rfl dX7_reduce_59 ?_
      refine j_getG C in_X7 (by decide) (cwT_9 ht) rfl 0 (by decide) mw_164 (fun _ h => h) rfl dX7_reduce_60 ?_
      refine j_iload_n C 0 rfl rfl dX7_reduce_63 ?_
      refine j_tabrow C ht hg5 dX7_reduce_64 ?_
      refine j_iload_n C 2 rfl rfl dX7_reduce_65 ?_
      obtain ⟨q6, hq6, h⟩ := bi_some h
      refine j_callVv (As := [.ref (ad 11 (15 * t + q2.toNatClampNeg)), .int v1]) (rest := []) C (c_X7_makeAboveNought ht (inB_lt hg5) hq6) (cwV 2 C.ts (good_V mw_485 mw_487 mw_6 mw_69 mw_488) rfl rfl rfl (by decide +kernel) ⟨Nat.le_of_ble_eq_true rfl, Nat.le_of_ble_eq_true rfl⟩) (fun H hW => CW.rv C.k hW (by decide) (cwT_9 ht) rfl) rfl rfl (Nat.le_of_ble_eq_true rfl) dX7_reduce_66 ⟨Nat.le_of_ble_eq_true rfl, Nat.le_of_ble_eq_true rfl⟩ ?_
      refine j_aload_n C 1 rfl rfl dX7_reduce_69 ?_
      refine j_iload_n C 0 rfl rfl dX7_reduce_70 ?_
      refine j_iload_n C 2 rfl rfl dX7_reduce_71 ?_
      obtain ⟨q7, hq7, h⟩ := bi_some h
      refine j_callVv (As := [.int q2, .int v1]) (rest := []) C (c_X7_clearColumn ht hq7) (cwV 2 C.ts (good_V mw_489 mw_491 mw_7 mw_69 mw_492) rfl rfl rfl (by decide +kernel) ⟨Nat.le_of_ble_eq_true rfl, Nat.le_of_ble_eq_true rfl⟩) (fun H hW => CW.rv C.k hW (by decide) (cwT_9 ht) rfl) rfl rfl (Nat.le_of_ble_eq_true rfl) dX7_reduce_72 ⟨Nat.le_of_ble_eq_true rfl, Nat.le_of_ble_eq_true rfl⟩ ?_
      refine j_iinc (v := v1 + (1 : Int32)) (L' := [(1, .int (v1 + (1 : Int32))), (2, .int q2), (0, .ref (ad 9 t))]) C 2 rfl rfl (by decide) rfl dX7_reduce_75 ?_
      refine j_goto (tgt := 2) C (by decide) dX7_reduce_78 ?_
      exact j_sub [2, 0] rfl (ih q7 (v1 + (1 : Int32)) h)
    · replace h := (if_pos hc4).symm.trans h
      refine j_aload_n C 1 rfl rfl dX7_reduce_28 ?_
      refine j_getG C in_X7 (by decide) (cwT_9 ht) rfl 3 (by decide) mw_167 (fun _ h => h) rfl dX7_reduce_29 ?_
      refine j_aload_n C 1 rfl rfl dX7_reduce_32 ?_
      refine j_getG C in_X7 (by decide) (cwT_9 ht) rfl 7 (by decide) mw_171 (fun _ h => h) rfl dX7_reduce_33 ?_
      refine j_iload_n C 2 rfl rfl dX7_reduce_36 ?_
      obtain ⟨hg8, h⟩ := gd_some h
      refine j_iastP C (by decide) (po_loose ht ((gI (wI τ 1 v1.toNatClampNeg q2) 5 0).toNatClampNeg) v1) hg8 dX7_reduce_37 ?_
      refine j_aload_n C 1 rfl rfl dX7_reduce_38 ?_
      refine j_dup C rfl dX7_reduce_39 ?_
      refine j_getG C in_X7 (by decide) (cwT_9 ht) rfl 7 (by decide) mw_171 (fun _ h => h) rfl dX7_reduce_40 ?_
      refine j_iconst (v := 1) C (by decide) dX7_reduce_43 ?_
      refine j_iadd C dX7_reduce_44 ?_
      refine j_putI C in_X7 tyX7_ok nmX7 rfl 7 (by decide) (by decide) (po_looseCount ht ((gI (wI (wI τ 1 v1.toNatClampNeg q2) 2 ((gI (wI τ 1 v1.toNatClampNeg q2) 5 0).toNatClampNeg) v1) 5 0) + (1 : Int32))) mw_171 (fun _ h => h) rfl (tyX7_ok 7 (by decide)) (Nat.le_of_ble_eq_true rfl) dX7_reduce_45 ?_
      refine j_goto (tgt := 75) C (by decide) dX7_reduce_48 ?_
      refine j_iinc (v := v1 + (1 : Int32)) (L' := [(1, .int (v1 + (1 : Int32))), (2, .int q2), (0, .ref (ad 9 t))]) C 2 rfl rfl (by decide) rfl dX7_reduce_75 ?_
      refine j_goto (tgt := 2) C (by decide) dX7_reduce_78 ?_
      exact j_sub [2, 0] rfl (ih (wI (wI (wI τ 1 v1.toNatClampNeg q2) 2 ((gI (wI τ 1 v1.toNatClampNeg q2) 5 0).toNatClampNeg) v1) 5 0 ((gI (wI (wI τ 1 v1.toNatClampNeg q2) 2 ((gI (wI τ 1 v1.toNatClampNeg q2) 5 0).toNatClampNeg) v1) 5 0) + (1 : Int32))) (v1 + (1 : Int32)) h)
set_option maxRecDepth 100000 in
set_option maxHeartbeats 4000000 in
theorem t_X7_reduce_0 {T : Nat → Mem} {σ : Mem} {t : Nat} {χ : Mem} (C : Cx p s m args meth c cX7_reduce 3 RX7 none COM g) (ht : t < 3) {rr : Mem} (τ : Mem) (h : f_X7_reduce_0 τ = some rr) : JJ p l e rm_X7_reduce s m args below meth c 3 g ad (MQ below (PoV g ad χ (stT T t (rr)) σ) args s 0 0 (geB g)) χ (stT T t τ) σ 0 0 [(0, .ref (ad 9 t))] 0 [] := by
  rw [f_X7_reduce_0] at h
  refine j_iconst (v := 0) C (by decide) dX7_reduce_0 ?_
  refine j_istore_n (L' := [(1, .int (0 : Int32)), (0, .ref (ad 9 t))]) C rfl (by decide) rfl dX7_reduce_1 ?_
  exact j_sub [1, 0] rfl (t_X7_reduce_2 C ht FU τ (0 : Int32) h)
set_option maxRecDepth 100000 in
set_option maxHeartbeats 4000000 in
theorem c_X7_reduce {l : Launch} {g : Gc} {ad : Nat → Nat → Nat} {χ : Mem} {T : Nat → Mem} {σ : Mem} {τ : Mem} {t : Nat} (ht : t < 3) {rr : Mem} (h : f_X7_reduce τ = some rr) : Met l yX7_reduce (WS yX7_reduce cX7_reduce 3 none) rm_X7_reduce (PreW g ad χ (stT T t τ) σ [.ref (ad 9 t)]) (PoV g ad χ (stT T t (rr)) σ) 0 0 (geB g) := by
  refine j_metW (by decide) (Nat.le_of_ble_eq_true rfl) fun p e s m below meth c C hname => ?_
  rw [f_X7_reduce] at h
  exact j_sub [0] rfl (t_X7_reduce_0 C ht τ h)
theorem cc_X7_reduce {l : Launch} {g : Gc} {ad : Nat → Nat → Nat} {χ : Mem} {T : Nat → Mem} {σ : Mem} {t : Nat} (ht : t < 3) {rr : Mem} (h : f_X7_reduce (T t) = some rr) : Met l yX7_reduce (WS yX7_reduce cX7_reduce 3 none) rm_X7_reduce (PreW g ad χ T σ [.ref (ad 9 t)]) (PoV g ad χ (stT T t (rr)) σ) 0 0 (geB g) := by
  have k := c_X7_reduce (l := l) (g := g) (ad := ad) (χ := χ) (T := T) (σ := σ) ht h
  rw [stT_self] at k
  exact k
set_option maxRecDepth 100000 in
set_option maxHeartbeats 4000000 in
theorem t_X7_looseColumns_0 {T : Nat → Mem} {σ : Mem} {t : Nat} {χ : Mem} {τ : Mem} (C : Cx p s m args meth c cX7_looseColumns 1 RX7 (some .int) COM g) (ht : t < 3) {rr : Int32} (h : f_X7_looseColumns_0 τ = some rr) : JJ p l e rm_X7_looseColumns s m args below meth c 1 g ad (MQ below (PoI g ad χ (stT T t τ) σ rr) args s 0 0 (geB g)) χ (stT T t τ) σ 0 0 [(0, .ref (ad 9 t))] 0 [] := by
  rw [f_X7_looseColumns_0] at h
  refine j_aload_n C 0 rfl rfl dX7_looseColumns_0 ?_
  refine j_getG C in_X7 (by decide) (cwT_9 ht) rfl 7 (by decide) mw_171 (fun _ h => h) rfl dX7_looseColumns_1 ?_
  obtain rfl := Option.some.inj h
  exact j_iret C rfl rfl (Nat.le_refl _) (Nat.le_refl _) dX7_looseColumns_4
set_option maxRecDepth 100000 in
set_option maxHeartbeats 4000000 in
theorem c_X7_looseColumns {l : Launch} {g : Gc} {ad : Nat → Nat → Nat} {χ : Mem} {T : Nat → Mem} {σ : Mem} {τ : Mem} {t : Nat} (ht : t < 3) {rr : Int32} (h : f_X7_looseColumns τ = some rr) : Met l yX7_looseColumns (WS yX7_looseColumns cX7_looseColumns 1 (some .int)) rm_X7_looseColumns (PreW g ad χ (stT T t τ) σ [.ref (ad 9 t)]) (PoI g ad χ (stT T t τ) σ rr) 0 0 (geB g) := by
  refine j_metW (by decide) (Nat.le_of_ble_eq_true rfl) fun p e s m below meth c C hname => ?_
  rw [f_X7_looseColumns] at h
  exact j_sub [0] rfl (t_X7_looseColumns_0 C ht h)
theorem cc_X7_looseColumns {l : Launch} {g : Gc} {ad : Nat → Nat → Nat} {χ : Mem} {T : Nat → Mem} {σ : Mem} {t : Nat} (ht : t < 3) {rr : Int32} (h : f_X7_looseColumns (T t) = some rr) : Met l yX7_looseColumns (WS yX7_looseColumns cX7_looseColumns 1 (some .int)) rm_X7_looseColumns (PreW g ad χ T σ [.ref (ad 9 t)]) (PoI g ad χ T σ rr) 0 0 (geB g) := by
  have k := c_X7_looseColumns (l := l) (g := g) (ad := ad) (χ := χ) (T := T) (σ := σ) ht h
  rw [stT_self] at k
  exact k
set_option maxRecDepth 100000 in
set_option maxHeartbeats 4000000 in
theorem t_X7_rank_0 {T : Nat → Mem} {σ : Mem} {t : Nat} {χ : Mem} {τ : Mem} (C : Cx p s m args meth c cX7_rank 1 RX7 (some .int) COM g) (ht : t < 3) {rr : Int32} (h : f_X7_rank_0 τ = some rr) : JJ p l e rm_X7_rank s m args below meth c 1 g ad (MQ below (PoI g ad χ (stT T t τ) σ rr) args s 0 0 (geB g)) χ (stT T t τ) σ 0 0 [(0, .ref (ad 9 t))] 0 [] := by
  rw [f_X7_rank_0] at h
  refine j_aload_n C 0 rfl rfl dX7_rank_0 ?_
  refine j_getG C in_X7 (by decide) (cwT_9 ht) rfl 6 (by decide) mw_170 (fun _ h => h) rfl dX7_rank_1 ?_
  refine j_aload_n C 0 rfl rfl dX7_rank_4 ?_
  refine j_getG C in_X7 (by decide) (cwT_9 ht) rfl 7 (by decide) mw_171 (fun _ h => h) rfl dX7_rank_5 ?_
  refine j_isub C dX7_rank_8 ?_
  obtain rfl := Option.some.inj h
  exact j_iret C rfl rfl (Nat.le_refl _) (Nat.le_refl _) dX7_rank_9
set_option maxRecDepth 100000 in
set_option maxHeartbeats 4000000 in
theorem c_X7_rank {l : Launch} {g : Gc} {ad : Nat → Nat → Nat} {χ : Mem} {T : Nat → Mem} {σ : Mem} {τ : Mem} {t : Nat} (ht : t < 3) {rr : Int32} (h : f_X7_rank τ = some rr) : Met l yX7_rank (WS yX7_rank cX7_rank 1 (some .int)) rm_X7_rank (PreW g ad χ (stT T t τ) σ [.ref (ad 9 t)]) (PoI g ad χ (stT T t τ) σ rr) 0 0 (geB g) := by
  refine j_metW (by decide) (Nat.le_of_ble_eq_true rfl) fun p e s m below meth c C hname => ?_
  rw [f_X7_rank] at h
  exact j_sub [0] rfl (t_X7_rank_0 C ht h)
theorem cc_X7_rank {l : Launch} {g : Gc} {ad : Nat → Nat → Nat} {χ : Mem} {T : Nat → Mem} {σ : Mem} {t : Nat} (ht : t < 3) {rr : Int32} (h : f_X7_rank (T t) = some rr) : Met l yX7_rank (WS yX7_rank cX7_rank 1 (some .int)) rm_X7_rank (PreW g ad χ T σ [.ref (ad 9 t)]) (PoI g ad χ T σ rr) 0 0 (geB g) := by
  have k := c_X7_rank (l := l) (g := g) (ad := ad) (χ := χ) (T := T) (σ := σ) ht h
  rw [stT_self] at k
  exact k
set_option maxRecDepth 100000 in
set_option maxHeartbeats 4000000 in
theorem t_X7_answer_0 {T : Nat → Mem} {σ : Mem} {t : Nat} {χ : Mem} {τ : Mem} (C : Cx p s m args meth c cX7_answer 6 RX7 (some .long) COM g) (ht : t < 3) {rr : Int64} (a1 : Int32) (a2 : Int32) (h : f_X7_answer_0 τ a1 a2 = some rr) : JJ p l e rm_X7_answer s m args below meth c 6 g ad (MQ below (PoL g ad χ (stT T t τ) σ rr) args s 0 0 (geB g)) χ (stT T t τ) σ 0 0 [(0, .ref (ad 9 t)), (1, .int a1), (2, .int a2)] 0 [] := by
  rw [f_X7_answer_0] at h
  refine j_iload_n C 1 rfl rfl dX7_answer_0 ?_
  refine j_if_lt (tgt := 12) C (by decide) dX7_answer_1 (fun hc1 => ?_) (fun hc1 => ?_)
  · replace h := (if_pos hc1).symm.trans h
    refine j_lconst (v := 0) C (by decide) dX7_answer_12 ?_
    obtain rfl := Option.some.inj h
    exact j_lret C rfl (Nat.le_refl _) (Nat.le_refl _) dX7_answer_13
  · replace h := (if_neg hc1).symm.trans h
    refine j_iload_n C 1 rfl rfl dX7_answer_4 ?_
    refine j_aload_n C 0 rfl rfl dX7_answer_5 ?_
    refine j_getG C in_X7 (by decide) (cwT_9 ht) rfl 7 (by decide) mw_171 (fun _ h => h) rfl dX7_answer_6 ?_
    refine j_icmp_lt (tgt := 14) C (by decide) dX7_answer_9 (fun hc2 => ?_) (fun hc2 => ?_)
    · replace h := (if_pos hc2).symm.trans h
      refine j_iload_n C 2 rfl rfl dX7_answer_14 ?_
      refine j_aload_n C 0 rfl rfl dX7_answer_15 ?_
      refine j_getG C in_X7 (by decide) (cwT_9 ht) rfl 3 (by decide) mw_167 (fun _ h => h) rfl dX7_answer_16 ?_
      refine j_iload_n C 1 rfl rfl dX7_answer_19 ?_
      obtain ⟨hg3, h⟩ := gd_some h
      refine j_iald C (by decide) (cwT_14 ht) hg3 dX7_answer_20 ?_
      refine j_icmp_ne (tgt := 31) C (by decide) dX7_answer_21 (fun hc4 => ?_) (fun hc4 => ?_)
      · replace h := (if_neg hc4).symm.trans h
        refine j_aload_n C 0 rfl rfl dX7_answer_31 ?_
        refine j_iload_n C 2 rfl rfl dX7_answer_32 ?_
        obtain ⟨q5, hq5, h⟩ := bi_some h
        refine j_callVi (As := [.int a2]) (rest := []) C (c_X7_isLoose ht hq5) (cwV 1 C.ts (good_V mw_512 mw_513 mw_514 mw_69 mw_515) rfl rfl rfl (by decide +kernel) ⟨Nat.le_of_ble_eq_true rfl, Nat.le_of_ble_eq_true rfl⟩) (fun H hW => CW.rv C.k hW (by decide) (cwT_9 ht) rfl) rfl rfl (Nat.le_of_ble_eq_true rfl) dX7_answer_33 ⟨Nat.le_of_ble_eq_true rfl, Nat.le_of_ble_eq_true rfl⟩ ?_
        refine j_if_eq (tgt := 41) C (by decide) dX7_answer_36 (fun hc6 => ?_) (fun hc6 => ?_)
        · replace h := (if_pos hc6).symm.trans h
          refine j_aload_n C 0 rfl rfl dX7_answer_41 ?_
          refine j_getG C in_X7 (by decide) (cwT_9 ht) rfl 0 (by decide) mw_164 (fun _ h => h) rfl dX7_answer_42 ?_
          refine j_aload_n C 0 rfl rfl dX7_answer_45 ?_
          refine j_getG C in_X7 (by decide) (cwT_9 ht) rfl 2 (by decide) mw_166 (fun _ h => h) rfl dX7_answer_46 ?_
          refine j_iload_n C 2 rfl rfl dX7_answer_49 ?_
          obtain ⟨hg7, h⟩ := gd_some h
          refine j_iald C (by decide) (cwT_13 ht) hg7 dX7_answer_50 ?_
          obtain ⟨hg8, h⟩ := gd_some h
          refine j_tabrow C ht hg8 dX7_answer_51 ?_
          refine j_astore_n (L' := [(3, .ref (ad 11 (15 * t + ((gI τ 1 a2.toNatClampNeg).toNatClampNeg)))), (0, .ref (ad 9 t)), (1, .int a1), (2, .int a2)]) C rfl (by decide) rfl dX7_answer_52 ?_
          refine j_aload_n C 0 rfl rfl dX7_answer_53 ?_
          refine j_iload_n C 3 rfl rfl dX7_answer_54 ?_
          obtain ⟨hg9, h⟩ := gd_some h
          refine j_lald C (by decide) (cwT_11 ht (inB_lt hg8)) hg9 dX7_answer_55 ?_
          refine j_lstore (L' := [(4, .long (gL τ ((gI τ 1 a2.toNatClampNeg).toNatClampNeg) a2.toNatClampNeg)), (3, .ref (ad 11 (15 * t + ((gI τ 1 a2.toNatClampNeg).toNatClampNeg)))), (0, .ref (ad 9 t)), (1, .int a1), (2, .int a2)]) C (by decide) rfl dX7_answer_56 ?_
          refine j_lload C 0 rfl dX7_answer_58 ?_
          refine j_lconst (v := 0) C (by decide) dX7_answer_60 ?_
          refine j_lcmp_ne (tgt := 69) C dX7_answer_62 (by decide) dX7_answer_61 (fun hc10 => ?_) (fun hc10 => ?_)
          · replace h := (if_neg hc10).symm.trans h
            refine j_aload_n C 1 rfl rfl dX7_answer_69 ?_
            refine j_aload_n C 2 rfl rfl dX7_answer_70 ?_
            refine j_getG C in_X7 (by decide) (cwT_9 ht) rfl 3 (by decide) mw_167 (fun _ h => h) rfl dX7_answer_71 ?_
            refine j_iload_n C 3 rfl rfl dX7_answer_74 ?_
            refine j_iald C (by decide) (cwT_14 ht) hg3 dX7_answer_75 ?_
            obtain ⟨hg11, h⟩ := gd_some h
            refine j_lald C (by decide) (cwT_11 ht (inB_lt hg8)) hg11 dX7_answer_76 ?_
            refine j_aload_n C 2 rfl rfl dX7_answer_77 ?_
            refine j_getG C in_X7 (by decide) (cwT_9 ht) rfl 4 (by decide) mw_168 (fun _ h => h) rfl dX7_answer_78 ?_
            refine j_iload_n C 3 rfl rfl dX7_answer_81 ?_
            refine j_lald C (by decide) (cwT_15 ht) hg3 dX7_answer_82 ?_
            refine j_lmul C dX7_answer_83 ?_
            refine j_lneg C dX7_answer_84 ?_
            refine j_lload C 0 rfl dX7_answer_85 ?_
            obtain ⟨hg12, h⟩ := gz_some h
            refine j_ldiv C hg12 dX7_answer_87 ?_
            obtain rfl := Option.some.inj h
            exact j_lret C rfl (Nat.le_refl _) (Nat.le_refl _) dX7_answer_88
          · replace h := (if_pos hc10).symm.trans h
            refine j_lconst (v := 0) C (by decide) dX7_answer_65 ?_
            refine j_goto (tgt := 88) C (by decide) dX7_answer_66 ?_
            obtain rfl := Option.some.inj h
            exact j_lret C rfl (Nat.le_refl _) (Nat.le_refl _) dX7_answer_88
        · replace h := (if_neg hc6).symm.trans h
          refine j_lconst (v := 0) C (by decide) dX7_answer_39 ?_
          obtain rfl := Option.some.inj h
          exact j_lret C rfl (Nat.le_refl _) (Nat.le_refl _) dX7_answer_40
      · replace h := (if_pos hc4).symm.trans h
        refine j_aload_n C 0 rfl rfl dX7_answer_24 ?_
        refine j_getG C in_X7 (by decide) (cwT_9 ht) rfl 4 (by decide) mw_168 (fun _ h => h) rfl dX7_answer_25 ?_
        refine j_iload_n C 1 rfl rfl dX7_answer_28 ?_
        refine j_lald C (by decide) (cwT_15 ht) hg3 dX7_answer_29 ?_
        obtain rfl := Option.some.inj h
        exact j_lret C rfl (Nat.le_refl _) (Nat.le_refl _) dX7_answer_30
    · replace h := (if_neg hc2).symm.trans h
      refine j_lconst (v := 0) C (by decide) dX7_answer_12 ?_
      obtain rfl := Option.some.inj h
      exact j_lret C rfl (Nat.le_refl _) (Nat.le_refl _) dX7_answer_13
set_option maxRecDepth 100000 in
set_option maxHeartbeats 4000000 in
theorem c_X7_answer {l : Launch} {g : Gc} {ad : Nat → Nat → Nat} {χ : Mem} {T : Nat → Mem} {σ : Mem} {τ : Mem} {t : Nat} {a1 : Int32} {a2 : Int32} (ht : t < 3) {rr : Int64} (h : f_X7_answer τ a1 a2 = some rr) : Met l yX7_answer (WS yX7_answer cX7_answer 6 (some .long)) rm_X7_answer (PreW g ad χ (stT T t τ) σ [.ref (ad 9 t), .int a1, .int a2]) (PoL g ad χ (stT T t τ) σ rr) 0 0 (geB g) := by
  refine j_metW (by decide) (Nat.le_of_ble_eq_true rfl) fun p e s m below meth c C hname => ?_
  rw [f_X7_answer] at h
  exact j_sub [0, 1, 2] rfl (t_X7_answer_0 C ht a1 a2 h)
theorem cc_X7_answer {l : Launch} {g : Gc} {ad : Nat → Nat → Nat} {χ : Mem} {T : Nat → Mem} {σ : Mem} {t : Nat} {a1 : Int32} {a2 : Int32} (ht : t < 3) {rr : Int64} (h : f_X7_answer (T t) a1 a2 = some rr) : Met l yX7_answer (WS yX7_answer cX7_answer 6 (some .long)) rm_X7_answer (PreW g ad χ T σ [.ref (ad 9 t), .int a1, .int a2]) (PoL g ad χ T σ rr) 0 0 (geB g) := by
  have k := c_X7_answer (l := l) (g := g) (ad := ad) (χ := χ) (T := T) (σ := σ) ht h
  rw [stT_self] at k
  exact k
set_option maxRecDepth 100000 in
set_option maxHeartbeats 4000000 in
theorem t_X7_hasSolution_2 {T : Nat → Mem} {σ : Mem} {t : Nat} {χ : Mem} {τ : Mem} (C : Cx p s m args meth c cX7_hasSolution 2 RX7 (some .boolean) COM g) (ht : t < 3) {rr : Int32} : ∀ (n : Nat) (v1 : Int32) (h : f_X7_hasSolution_2 τ n v1 = some rr), JJ p l e rm_X7_hasSolution s m args below meth c 2 g ad (MQ below (PoI g ad χ (stT T t τ) σ rr) args s 0 0 (geB g)) χ (stT T t τ) σ 0 0 [(0, .ref (ad 9 t)), (1, .int v1)] 2 [] := by
  intro n
  induction n with
  | zero => intro v1  h; cases h
  | succ n ih =>
  intro v1  h
  rw [f_X7_hasSolution_2] at h
  refine j_iload_n C 1 rfl rfl dX7_hasSolution_2 ?_
  refine j_aload_n C 0 rfl rfl dX7_hasSolution_3 ?_
  refine j_getG C in_X7 (by decide) (cwT_9 ht) rfl 5 (by decide) mw_169 (fun _ h => h) rfl dX7_hasSolution_4 ?_
  refine j_icmp_ge (tgt := 43) C (by decide) dX7_hasSolution_7 (fun hc1 => ?_) (fun hc1 => ?_)
  · replace h := (if_pos hc1).symm.trans h
    refine j_iconst (v := 1) C (by decide) dX7_hasSolution_43 ?_
    obtain rfl := Option.some.inj h
    exact j_iret C rfl (bo_nar (Or.inr rfl)) (Nat.le_refl _) (Nat.le_refl _) dX7_hasSolution_44
  · replace h := (if_neg hc1).symm.trans h
    refine j_aload_n C 0 rfl rfl dX7_hasSolution_10 ?_
    refine j_getG C in_X7 (by decide) (cwT_9 ht) rfl 1 (by decide) mw_165 (fun _ h => h) rfl dX7_hasSolution_11 ?_
    refine j_iload_n C 1 rfl rfl dX7_hasSolution_14 ?_
    obtain ⟨hg2, h⟩ := gd_some h
    refine j_zald C (by decide) (cwT_12 ht) hg2 dX7_hasSolution_15 ?_
    refine j_if_ne (tgt := 37) C (by decide) dX7_hasSolution_16 (fun hc3 => ?_) (fun hc3 => ?_)
    · replace h := (if_neg hc3).symm.trans h
      refine j_iinc (v := v1 + (1 : Int32)) (L' := [(1, .int (v1 + (1 : Int32))), (0, .ref (ad 9 t))]) C 1 rfl rfl (by decide) rfl dX7_hasSolution_37 ?_
      refine j_goto (tgt := 2) C (by decide) dX7_hasSolution_40 ?_
      exact j_sub [1, 0] rfl (ih (v1 + (1 : Int32)) h)
    · replace h := (if_pos hc3).symm.trans h
      refine j_aload_n C 0 rfl rfl dX7_hasSolution_19 ?_
      refine j_getG C in_X7 (by decide) (cwT_9 ht) rfl 0 (by decide) mw_164 (fun _ h => h) rfl dX7_hasSolution_20 ?_
      refine j_iload_n C 1 rfl rfl dX7_hasSolution_23 ?_
      refine j_tabrow C ht hg2 dX7_hasSolution_24 ?_
      refine j_aload_n C 0 rfl rfl dX7_hasSolution_25 ?_
      refine j_getG C in_X7 (by decide) (cwT_9 ht) rfl 6 (by decide) mw_170 (fun _ h => h) rfl dX7_hasSolution_26 ?_
      obtain ⟨hg4, h⟩ := gd_some h
      refine j_lald C (by decide) (cwT_11 ht (inB_lt hg2)) hg4 dX7_hasSolution_29 ?_
      refine j_lconst (v := 0) C (by decide) dX7_hasSolution_30 ?_
      refine j_lcmp_eq (tgt := 37) C dX7_hasSolution_32 (by decide) dX7_hasSolution_31 (fun hc5 => ?_) (fun hc5 => ?_)
      · replace h := (if_pos hc5).symm.trans h
        refine j_iinc (v := v1 + (1 : Int32)) (L' := [(1, .int (v1 + (1 : Int32))), (0, .ref (ad 9 t))]) C 1 rfl rfl (by decide) rfl dX7_hasSolution_37 ?_
        refine j_goto (tgt := 2) C (by decide) dX7_hasSolution_40 ?_
        exact j_sub [1, 0] rfl (ih (v1 + (1 : Int32)) h)
      · replace h := (if_neg hc5).symm.trans h
        refine j_iconst (v := 0) C (by decide) dX7_hasSolution_35 ?_
        obtain rfl := Option.some.inj h
        exact j_iret C rfl (bo_nar (Or.inl rfl)) (Nat.le_refl _) (Nat.le_refl _) dX7_hasSolution_36
set_option maxRecDepth 100000 in
set_option maxHeartbeats 4000000 in
theorem t_X7_hasSolution_0 {T : Nat → Mem} {σ : Mem} {t : Nat} {χ : Mem} {τ : Mem} (C : Cx p s m args meth c cX7_hasSolution 2 RX7 (some .boolean) COM g) (ht : t < 3) {rr : Int32} (h : f_X7_hasSolution_0 τ = some rr) : JJ p l e rm_X7_hasSolution s m args below meth c 2 g ad (MQ below (PoI g ad χ (stT T t τ) σ rr) args s 0 0 (geB g)) χ (stT T t τ) σ 0 0 [(0, .ref (ad 9 t))] 0 [] := by
  rw [f_X7_hasSolution_0] at h
  refine j_iconst (v := 0) C (by decide) dX7_hasSolution_0 ?_
  refine j_istore_n (L' := [(1, .int (0 : Int32)), (0, .ref (ad 9 t))]) C rfl (by decide) rfl dX7_hasSolution_1 ?_
  exact j_sub [1, 0] rfl (t_X7_hasSolution_2 C ht FU (0 : Int32) h)
set_option maxRecDepth 100000 in
set_option maxHeartbeats 4000000 in
theorem c_X7_hasSolution {l : Launch} {g : Gc} {ad : Nat → Nat → Nat} {χ : Mem} {T : Nat → Mem} {σ : Mem} {τ : Mem} {t : Nat} (ht : t < 3) {rr : Int32} (h : f_X7_hasSolution τ = some rr) : Met l yX7_hasSolution (WS yX7_hasSolution cX7_hasSolution 2 (some .boolean)) rm_X7_hasSolution (PreW g ad χ (stT T t τ) σ [.ref (ad 9 t)]) (PoI g ad χ (stT T t τ) σ rr) 0 0 (geB g) := by
  refine j_metW (by decide) (Nat.le_of_ble_eq_true rfl) fun p e s m below meth c C hname => ?_
  rw [f_X7_hasSolution] at h
  exact j_sub [0] rfl (t_X7_hasSolution_0 C ht h)
theorem cc_X7_hasSolution {l : Launch} {g : Gc} {ad : Nat → Nat → Nat} {χ : Mem} {T : Nat → Mem} {σ : Mem} {t : Nat} (ht : t < 3) {rr : Int32} (h : f_X7_hasSolution (T t) = some rr) : Met l yX7_hasSolution (WS yX7_hasSolution cX7_hasSolution 2 (some .boolean)) rm_X7_hasSolution (PreW g ad χ T σ [.ref (ad 9 t)]) (PoI g ad χ T σ rr) 0 0 (geB g) := by
  have k := c_X7_hasSolution (l := l) (g := g) (ad := ad) (χ := χ) (T := T) (σ := σ) ht h
  rw [stT_self] at k
  exact k
set_option maxRecDepth 100000 in
set_option maxHeartbeats 4000000 in
theorem t_X7_solutionAbove_0 {T : Nat → Mem} {σ : Mem} {t : Nat} {χ : Mem} {τ : Mem} (C : Cx p s m args meth c cX7_solutionAbove 5 RX7 (some .long) COM g) (ht : t < 3) {rr : Int64} (a1 : Int32) (h : f_X7_solutionAbove_0 τ a1 = some rr) : JJ p l e rm_X7_solutionAbove s m args below meth c 5 g ad (MQ below (PoL g ad χ (stT T t τ) σ rr) args s 0 0 (geB g)) χ (stT T t τ) σ 0 0 [(0, .ref (ad 9 t)), (1, .int a1)] 0 [] := by
  rw [f_X7_solutionAbove_0] at h
  refine j_aload_n C 0 rfl rfl dX7_solutionAbove_0 ?_
  refine j_iload_n C 1 rfl rfl dX7_solutionAbove_1 ?_
  obtain ⟨q1, hq1, h⟩ := bi_some h
  refine j_callVi (As := [.int a1]) (rest := []) C (c_X7_isLoose ht hq1) (cwV 1 C.ts (good_V mw_512 mw_513 mw_514 mw_69 mw_515) rfl rfl rfl (by decide +kernel) ⟨Nat.le_of_ble_eq_true rfl, Nat.le_of_ble_eq_true rfl⟩) (fun H hW => CW.rv C.k hW (by decide) (cwT_9 ht) rfl) rfl rfl (Nat.le_of_ble_eq_true rfl) dX7_solutionAbove_2 ⟨Nat.le_of_ble_eq_true rfl, Nat.le_of_ble_eq_true rfl⟩ ?_
  refine j_if_eq (tgt := 10) C (by decide) dX7_solutionAbove_5 (fun hc2 => ?_) (fun hc2 => ?_)
  · replace h := (if_pos hc2).symm.trans h
    refine j_aload_n C 0 rfl rfl dX7_solutionAbove_10 ?_
    refine j_getG C in_X7 (by decide) (cwT_9 ht) rfl 0 (by decide) mw_164 (fun _ h => h) rfl dX7_solutionAbove_11 ?_
    refine j_aload_n C 0 rfl rfl dX7_solutionAbove_14 ?_
    refine j_getG C in_X7 (by decide) (cwT_9 ht) rfl 2 (by decide) mw_166 (fun _ h => h) rfl dX7_solutionAbove_15 ?_
    refine j_iload_n C 1 rfl rfl dX7_solutionAbove_18 ?_
    obtain ⟨hg3, h⟩ := gd_some h
    refine j_iald C (by decide) (cwT_13 ht) hg3 dX7_solutionAbove_19 ?_
    obtain ⟨hg4, h⟩ := gd_some h
    refine j_tabrow C ht hg4 dX7_solutionAbove_20 ?_
    refine j_astore_n (L' := [(2, .ref (ad 11 (15 * t + ((gI τ 1 a1.toNatClampNeg).toNatClampNeg)))), (0, .ref (ad 9 t)), (1, .int a1)]) C rfl (by decide) rfl dX7_solutionAbove_21 ?_
    refine j_aload_n C 0 rfl rfl dX7_solutionAbove_22 ?_
    refine j_aload_n C 1 rfl rfl dX7_solutionAbove_23 ?_
    refine j_getG C in_X7 (by decide) (cwT_9 ht) rfl 6 (by decide) mw_170 (fun _ h => h) rfl dX7_solutionAbove_24 ?_
    obtain ⟨hg5, h⟩ := gd_some h
    refine j_lald C (by decide) (cwT_11 ht (inB_lt hg4)) hg5 dX7_solutionAbove_27 ?_
    refine j_aload_n C 0 rfl rfl dX7_solutionAbove_28 ?_
    refine j_iload_n C 2 rfl rfl dX7_solutionAbove_29 ?_
    obtain ⟨hg6, h⟩ := gd_some h
    refine j_lald C (by decide) (cwT_11 ht (inB_lt hg4)) hg6 dX7_solutionAbove_30 ?_
    obtain ⟨q7, hq7, h⟩ := bi_some h
    refine j_callSl (As := [.long (gL τ ((gI τ 1 a1.toNatClampNeg).toNatClampNeg) (gI τ 4 0).toNatClampNeg), .long (gL τ ((gI τ 1 a1.toNatClampNeg).toNatClampNeg) a1.toNatClampNeg)]) (rest := []) C (c_X7_commonDivisor hq7) (va_cwS 2 C.ts (good_S mw_497 mw_498 mw_69 mw_499) rfl rfl rfl (by decide +kernel) ⟨Nat.le_of_ble_eq_true rfl, Nat.le_of_ble_eq_true rfl⟩) rfl rfl (Nat.le_of_ble_eq_true rfl) dX7_solutionAbove_31 ⟨Nat.le_of_ble_eq_true rfl, Nat.le_of_ble_eq_true rfl⟩ ?_
    refine j_lstore_n (L' := [(3, .long q7), (2, .ref (ad 11 (15 * t + ((gI τ 1 a1.toNatClampNeg).toNatClampNeg)))), (0, .ref (ad 9 t)), (1, .int a1)]) C rfl (by decide) rfl dX7_solutionAbove_34 ?_
    refine j_lload_n C 0 rfl rfl dX7_solutionAbove_35 ?_
    refine j_lconst (v := 0) C (by decide) dX7_solutionAbove_36 ?_
    refine j_lcmp_ne (tgt := 45) C dX7_solutionAbove_38 (by decide) dX7_solutionAbove_37 (fun hc8 => ?_) (fun hc8 => ?_)
    · replace h := (if_neg hc8).symm.trans h
      refine j_aload_n C 1 rfl rfl dX7_solutionAbove_45 ?_
      refine j_aload_n C 2 rfl rfl dX7_solutionAbove_46 ?_
      refine j_getG C in_X7 (by decide) (cwT_9 ht) rfl 6 (by decide) mw_170 (fun _ h => h) rfl dX7_solutionAbove_47 ?_
      refine j_lald C (by decide) (cwT_11 ht (inB_lt hg4)) hg5 dX7_solutionAbove_50 ?_
      refine j_lload_n C 0 rfl rfl dX7_solutionAbove_51 ?_
      obtain ⟨hg9, h⟩ := gz_some h
      refine j_ldiv C hg9 dX7_solutionAbove_52 ?_
      obtain rfl := Option.some.inj h
      exact j_lret C rfl (Nat.le_refl _) (Nat.le_refl _) dX7_solutionAbove_53
    · replace h := (if_pos hc8).symm.trans h
      refine j_lconst (v := 0) C (by decide) dX7_solutionAbove_41 ?_
      refine j_goto (tgt := 53) C (by decide) dX7_solutionAbove_42 ?_
      obtain rfl := Option.some.inj h
      exact j_lret C rfl (Nat.le_refl _) (Nat.le_refl _) dX7_solutionAbove_53
  · replace h := (if_neg hc2).symm.trans h
    refine j_lconst (v := 0) C (by decide) dX7_solutionAbove_8 ?_
    obtain rfl := Option.some.inj h
    exact j_lret C rfl (Nat.le_refl _) (Nat.le_refl _) dX7_solutionAbove_9
set_option maxRecDepth 100000 in
set_option maxHeartbeats 4000000 in
theorem c_X7_solutionAbove {l : Launch} {g : Gc} {ad : Nat → Nat → Nat} {χ : Mem} {T : Nat → Mem} {σ : Mem} {τ : Mem} {t : Nat} {a1 : Int32} (ht : t < 3) {rr : Int64} (h : f_X7_solutionAbove τ a1 = some rr) : Met l yX7_solutionAbove (WS yX7_solutionAbove cX7_solutionAbove 5 (some .long)) rm_X7_solutionAbove (PreW g ad χ (stT T t τ) σ [.ref (ad 9 t), .int a1]) (PoL g ad χ (stT T t τ) σ rr) 0 0 (geB g) := by
  refine j_metW (by decide) (Nat.le_of_ble_eq_true rfl) fun p e s m below meth c C hname => ?_
  rw [f_X7_solutionAbove] at h
  exact j_sub [0, 1] rfl (t_X7_solutionAbove_0 C ht a1 h)
theorem cc_X7_solutionAbove {l : Launch} {g : Gc} {ad : Nat → Nat → Nat} {χ : Mem} {T : Nat → Mem} {σ : Mem} {t : Nat} {a1 : Int32} (ht : t < 3) {rr : Int64} (h : f_X7_solutionAbove (T t) a1 = some rr) : Met l yX7_solutionAbove (WS yX7_solutionAbove cX7_solutionAbove 5 (some .long)) rm_X7_solutionAbove (PreW g ad χ T σ [.ref (ad 9 t), .int a1]) (PoL g ad χ T σ rr) 0 0 (geB g) := by
  have k := c_X7_solutionAbove (l := l) (g := g) (ad := ad) (χ := χ) (T := T) (σ := σ) ht h
  rw [stT_self] at k
  exact k
set_option maxRecDepth 100000 in
set_option maxHeartbeats 4000000 in
theorem t_X7_solutionBelow_0 {T : Nat → Mem} {σ : Mem} {t : Nat} {χ : Mem} {τ : Mem} (C : Cx p s m args meth c cX7_solutionBelow 3 RX7 (some .long) COM g) (ht : t < 3) {rr : Int64} (a1 : Int32) (h : f_X7_solutionBelow_0 τ a1 = some rr) : JJ p l e rm_X7_solutionBelow s m args below meth c 3 g ad (MQ below (PoL g ad χ (stT T t τ) σ rr) args s 0 0 (geB g)) χ (stT T t τ) σ 0 0 [(0, .ref (ad 9 t)), (1, .int a1)] 0 [] := by
  rw [f_X7_solutionBelow_0] at h
  refine j_aload_n C 0 rfl rfl dX7_solutionBelow_0 ?_
  refine j_iload_n C 1 rfl rfl dX7_solutionBelow_1 ?_
  obtain ⟨q1, hq1, h⟩ := bi_some h
  refine j_callVi (As := [.int a1]) (rest := []) C (c_X7_isLoose ht hq1) (cwV 1 C.ts (good_V mw_512 mw_513 mw_514 mw_69 mw_515) rfl rfl rfl (by decide +kernel) ⟨Nat.le_of_ble_eq_true rfl, Nat.le_of_ble_eq_true rfl⟩) (fun H hW => CW.rv C.k hW (by decide) (cwT_9 ht) rfl) rfl rfl (Nat.le_of_ble_eq_true rfl) dX7_solutionBelow_2 ⟨Nat.le_of_ble_eq_true rfl, Nat.le_of_ble_eq_true rfl⟩ ?_
  refine j_if_eq (tgt := 10) C (by decide) dX7_solutionBelow_5 (fun hc2 => ?_) (fun hc2 => ?_)
  · replace h := (if_pos hc2).symm.trans h
    refine j_aload_n C 0 rfl rfl dX7_solutionBelow_10 ?_
    refine j_getG C in_X7 (by decide) (cwT_9 ht) rfl 0 (by decide) mw_164 (fun _ h => h) rfl dX7_solutionBelow_11 ?_
    refine j_aload_n C 0 rfl rfl dX7_solutionBelow_14 ?_
    refine j_getG C in_X7 (by decide) (cwT_9 ht) rfl 2 (by decide) mw_166 (fun _ h => h) rfl dX7_solutionBelow_15 ?_
    refine j_iload_n C 1 rfl rfl dX7_solutionBelow_18 ?_
    obtain ⟨hg3, h⟩ := gd_some h
    refine j_iald C (by decide) (cwT_13 ht) hg3 dX7_solutionBelow_19 ?_
    obtain ⟨hg4, h⟩ := gd_some h
    refine j_tabrow C ht hg4 dX7_solutionBelow_20 ?_
    refine j_astore_n (L' := [(2, .ref (ad 11 (15 * t + ((gI τ 1 a1.toNatClampNeg).toNatClampNeg)))), (0, .ref (ad 9 t)), (1, .int a1)]) C rfl (by decide) rfl dX7_solutionBelow_21 ?_
    refine j_aload_n C 0 rfl rfl dX7_solutionBelow_22 ?_
    refine j_aload_n C 1 rfl rfl dX7_solutionBelow_23 ?_
    refine j_getG C in_X7 (by decide) (cwT_9 ht) rfl 6 (by decide) mw_170 (fun _ h => h) rfl dX7_solutionBelow_24 ?_
    obtain ⟨hg5, h⟩ := gd_some h
    refine j_lald C (by decide) (cwT_11 ht (inB_lt hg4)) hg5 dX7_solutionBelow_27 ?_
    refine j_aload_n C 0 rfl rfl dX7_solutionBelow_28 ?_
    refine j_iload_n C 2 rfl rfl dX7_solutionBelow_29 ?_
    obtain ⟨hg6, h⟩ := gd_some h
    refine j_lald C (by decide) (cwT_11 ht (inB_lt hg4)) hg6 dX7_solutionBelow_30 ?_
    obtain ⟨q7, hq7, h⟩ := bi_some h
    refine j_callSl (As := [.long (gL τ ((gI τ 1 a1.toNatClampNeg).toNatClampNeg) (gI τ 4 0).toNatClampNeg), .long (gL τ ((gI τ 1 a1.toNatClampNeg).toNatClampNeg) a1.toNatClampNeg)]) (rest := []) C (c_X7_lowestBelow hq7) (va_cwS 2 C.ts (good_S mw_516 mw_517 mw_69 mw_518) rfl rfl rfl (by decide +kernel) ⟨Nat.le_of_ble_eq_true rfl, Nat.le_of_ble_eq_true rfl⟩) rfl rfl (Nat.le_of_ble_eq_true rfl) dX7_solutionBelow_31 ⟨Nat.le_of_ble_eq_true rfl, Nat.le_of_ble_eq_true rfl⟩ ?_
    obtain rfl := Option.some.inj h
    exact j_lret C rfl (Nat.le_refl _) (Nat.le_refl _) dX7_solutionBelow_34
  · replace h := (if_neg hc2).symm.trans h
    refine j_lconst (v := 1) C (by decide) dX7_solutionBelow_8 ?_
    obtain rfl := Option.some.inj h
    exact j_lret C rfl (Nat.le_refl _) (Nat.le_refl _) dX7_solutionBelow_9
set_option maxRecDepth 100000 in
set_option maxHeartbeats 4000000 in
theorem c_X7_solutionBelow {l : Launch} {g : Gc} {ad : Nat → Nat → Nat} {χ : Mem} {T : Nat → Mem} {σ : Mem} {τ : Mem} {t : Nat} {a1 : Int32} (ht : t < 3) {rr : Int64} (h : f_X7_solutionBelow τ a1 = some rr) : Met l yX7_solutionBelow (WS yX7_solutionBelow cX7_solutionBelow 3 (some .long)) rm_X7_solutionBelow (PreW g ad χ (stT T t τ) σ [.ref (ad 9 t), .int a1]) (PoL g ad χ (stT T t τ) σ rr) 0 0 (geB g) := by
  refine j_metW (by decide) (Nat.le_of_ble_eq_true rfl) fun p e s m below meth c C hname => ?_
  rw [f_X7_solutionBelow] at h
  exact j_sub [0, 1] rfl (t_X7_solutionBelow_0 C ht a1 h)
theorem cc_X7_solutionBelow {l : Launch} {g : Gc} {ad : Nat → Nat → Nat} {χ : Mem} {T : Nat → Mem} {σ : Mem} {t : Nat} {a1 : Int32} (ht : t < 3) {rr : Int64} (h : f_X7_solutionBelow (T t) a1 = some rr) : Met l yX7_solutionBelow (WS yX7_solutionBelow cX7_solutionBelow 3 (some .long)) rm_X7_solutionBelow (PreW g ad χ T σ [.ref (ad 9 t), .int a1]) (PoL g ad χ T σ rr) 0 0 (geB g) := by
  have k := c_X7_solutionBelow (l := l) (g := g) (ad := ad) (χ := χ) (T := T) (σ := σ) ht h
  rw [stT_self] at k
  exact k
end
