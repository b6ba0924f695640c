abbrev rm_X2_renew : Room := { frames := 7, cells := 32, slots := 672, locals := 171 }
def f_X2_renew_83 : Nat → Mem → Int32 → Option (Mem)
  | 0, _, _ => none
  | n + 1, χ, v1 => (if (gI χ 14 1) ≤ v1 then some χ else (if inB v1 (lsz χ 1) = true then (if (gI χ 9 (gN χ 1 v1.toNatClampNeg)) = 0 then f_X2_renew_83 n χ (v1 + (1 : Int32)) else (if lsz χ 3 < 15 then f_X2_renew_83 n (lAdd χ 3 (gN χ 1 v1.toNatClampNeg)) (v1 + (1 : Int32)) else none)) else none))
def f_X2_renew_11 : Nat → Mem → Int32 → Option (Mem)
  | 0, _, _ => none
  | n + 1, χ, v1 => (if (gI χ 14 0) ≤ v1 then f_X2_renew_83 16 (lClr χ 3) (0 : Int32) else (if inB v1 (lsz χ 0) = true then (if (gI χ 3 (gN χ 0 v1.toNatClampNeg)) = 0 then (if lsz χ 2 < 15 then f_X2_renew_11 n (lAdd χ 2 (gN χ 0 v1.toNatClampNeg)) (v1 + (1 : Int32)) else none) else f_X2_renew_11 n χ (v1 + (1 : Int32))) else none))
def f_X2_renew_0 (χ : Mem) : Option (Mem) :=
  f_X2_renew_11 16 (lClr χ 2) (0 : Int32)
def f_X2_renew (χ : Mem) : Option (Mem) :=
  f_X2_renew_0 χ
abbrev rm_X3_queueRodsIn : Room := { frames := 7, cells := 16, slots := 336, locals := 171 }
def f_X3_queueRodsIn_11 : Nat → Mem → (Nat → Mem) → Int32 → Option ((Mem × (Nat → Mem)))
  | 0, _, _, _ => none
  | n + 1, χ, T, v1 => (if (gI χ 14 3) ≤ v1 then some (χ, T) else (if inB v1 (lsz χ 3) = true then (if lsz χ 4 < 15 then f_X3_queueRodsIn_11 n (lAdd χ 4 (gN χ 3 v1.toNatClampNeg)) T (v1 + (1 : Int32)) else none) else none))
def f_X3_queueRodsIn_0 (χ : Mem) (T : Nat → Mem) : Option ((Mem × (Nat → Mem))) :=
  f_X3_queueRodsIn_11 16 (lClr χ 4) T (0 : Int32)
def f_X3_queueRodsIn (χ : Mem) (T : Nat → Mem) : Option ((Mem × (Nat → Mem))) :=
  f_X3_queueRodsIn_0 χ T
abbrev rm_X3_queueRodsOut : Room := { frames := 6, cells := 16, slots := 336, locals := 174 }
def f_X3_queueRodsOut_99 (k2 : Mem → (Nat → Mem) → Int32 → Option ((Mem × (Nat → Mem)))) (χ : Mem) (T : Nat → Mem) (v1 : Int32) (v2 : Nat) (v3 : Int32) : Option ((Mem × (Nat → Mem))) :=
  (if lsz χ 4 < 15 then (if inB v3 (lsz χ 4 + 1) = true then k2 (lAddAt χ 4 v3.toNatClampNeg v2) T (v1 + (1 : Int32)) else none) else none)
def f_X3_queueRodsOut_52 (k2 : Mem → (Nat → Mem) → Int32 → Option ((Mem × (Nat → Mem)))) : Nat → Mem → (Nat → Mem) → Int32 → Nat → Int32 → Option ((Mem × (Nat → Mem)))
  | 0, _, _, _, _, _ => none
  | n + 1, χ, T, v1, v2, v3 => (if v3 ≤ (gI χ 14 3) then f_X3_queueRodsOut_99 k2 χ T v1 v2 v3 else (if inB (v3 - (1 : Int32)) (lsz χ 4) = true then (if (gI χ 8 (gN χ 4 (v3 - (1 : Int32)).toNatClampNeg)) ≤ (gI χ 8 v2) then f_X3_queueRodsOut_99 k2 χ T v1 v2 v3 else f_X3_queueRodsOut_52 k2 n χ T v1 v2 (v3 + (-1 : Int32))) else none))
def f_X3_queueRodsOut_2 : Nat → Mem → (Nat → Mem) → Int32 → Option ((Mem × (Nat → Mem)))
  | 0, _, _, _ => none
  | n + 1, χ, T, v1 => (if (gI χ 14 1) ≤ v1 then some (χ, T) else (if inB v1 (lsz χ 1) = true then (if (gI χ 9 (gN χ 1 v1.toNatClampNeg)) = 0 then f_X3_queueRodsOut_52 (f_X3_queueRodsOut_2 n) 16 χ T v1 (gN χ 1 v1.toNatClampNeg) (gI χ 14 4) else f_X3_queueRodsOut_2 n χ T (v1 + (1 : Int32))) else none))
def f_X3_queueRodsOut_0 (χ : Mem) (T : Nat → Mem) : Option ((Mem × (Nat → Mem))) :=
  f_X3_queueRodsOut_2 16 χ T (0 : Int32)
def f_X3_queueRodsOut (χ : Mem) (T : Nat → Mem) : Option ((Mem × (Nat → Mem))) :=
  f_X3_queueRodsOut_0 χ T
abbrev rm_X3_renew : Room := { frames := 8, cells := 48, slots := 1008, locals := 197 }
def f_X3_renew_55 : Nat → Mem → (Nat → Mem) → Int32 → Option ((Mem × (Nat → Mem)))
  | 0, _, _, _ => none
  | n + 1, χ, T, v1 => (if (gI χ 14 4) ≤ v1 then some (χ, T) else ((f_X7_isLoose (T 2) v1).bind fun q2 => (if q2 = 0 then (if inB v1 (lsz χ 4) = true then (if lsz χ 5 < 15 then f_X3_renew_55 n (lAdd χ 5 (gN χ 4 v1.toNatClampNeg)) T (v1 + (1 : Int32)) else none) else none) else f_X3_renew_55 n χ T (v1 + (1 : Int32)))))
def f_X3_renew_0 (χ : Mem) (T : Nat → Mem) : Option ((Mem × (Nat → Mem))) :=
  ((f_X3_queueRodsIn χ T).bind fun q1 => ((f_X3_queueRodsOut q1.1 q1.2).bind fun q2 => ((f_X7_layRodsAsColumns q2.1 (q2.2 2) 4 2).bind fun q3 => ((f_X7_reduce ((stT q2.2 2 q3) 2)).bind fun q4 => f_X3_renew_55 16 (lClr q2.1 5) (stT (stT q2.2 2 q3) 2 q4) (gI (lClr q2.1 5) 14 3)))))
def f_X3_renew (χ : Mem) (T : Nat → Mem) : Option ((Mem × (Nat → Mem))) :=
  f_X3_renew_0 χ T
abbrev rm_X10_renew : Room := { frames := 9, cells := 80, slots := 1680, locals := 218 }
def f_X10_renew_0 (χ : Mem) (T : Nat → Mem) : Option ((Mem × (Nat → Mem))) :=
  ((f_X2_renew χ).bind fun q1 => ((f_X0_renew q1 T).bind fun q2 => ((f_X3_renew q2.1 q2.2).bind fun q3 => ((f_X1_renew q3.1).bind fun q4 => some (q4, q3.2)))))
def f_X10_renew (χ : Mem) (T : Nat → Mem) : Option ((Mem × (Nat → Mem))) :=
  f_X10_renew_0 χ T
abbrev rm_X10_hold : Room := { frames := 10, cells := 80, slots := 1680, locals := 238 }
def f_X10_hold_0 (χ : Mem) (T : Nat → Mem) (a1 : Int32) (a2 : Int32) : Option ((Mem × (Nat → Mem)) × Int32) :=
  ((f_X2_isPin χ a1).bind fun q1 => (if q1 = 0 then some ((χ, T), (-2 : Int32)) else (if inB a1 (lsz χ 0) = true then (if (gI χ 3 (gN χ 0 a1.toNatClampNeg)) = a2 then some ((χ, T), (0 : Int32)) else (if a2 = 0 ∨ a2 = 1 then ((f_X10_renew (wI (wI (wI χ 3 (gN χ 0 a1.toNatClampNeg) a2) 4 (gN χ 0 a1.toNatClampNeg) (0 : Int32)) 5 (gN χ 0 a1.toNatClampNeg) (0 : Int32)) T).bind fun q7 => some ((q7.1, q7.2), (1 : Int32))) else none)) else none)))
def f_X10_hold (χ : Mem) (T : Nat → Mem) (a1 : Int32) (a2 : Int32) : Option ((Mem × (Nat → Mem)) × Int32) :=
  f_X10_hold_0 χ T a1 a2
abbrev rm_X10_put : Room := { frames := 10, cells := 80, slots := 1680, locals := 238 }
def f_X10_put_0 (χ : Mem) (T : Nat → Mem) (a1 : Int32) (a2 : Int32) : Option ((Mem × (Nat → Mem)) × Int32) :=
  ((f_X2_isRod χ a1).bind fun q1 => (if q1 = 0 then some ((χ, T), (-2 : Int32)) else (if inB a1 (lsz χ 1) = true then ((f_X5_isOf χ (gN χ 1 a1.toNatClampNeg) (3 : Int32)).bind fun q5 => (if q5 = 0 then some ((χ, T), (-2 : Int32)) else (if (gI χ 9 (gN χ 1 a1.toNatClampNeg)) = a2 then some ((χ, T), (0 : Int32)) else (if a2 = 0 ∨ a2 = 1 then ((f_X10_renew (wI χ 9 (gN χ 1 a1.toNatClampNeg) a2) T).bind fun q9 => some ((q9.1, q9.2), (1 : Int32))) else none)))) else none)))
def f_X10_put (χ : Mem) (T : Nat → Mem) (a1 : Int32) (a2 : Int32) : Option ((Mem × (Nat → Mem)) × Int32) :=
  f_X10_put_0 χ T a1 a2
abbrev rm_X10_load : Room := { frames := 10, cells := 80, slots := 1680, locals := 238 }
def f_X10_load_0 (χ : Mem) (T : Nat → Mem) (a1 : Int32) (a2 : Int32) (a3 : Int32) : Option ((Mem × (Nat → Mem)) × Int32) :=
  ((f_X2_isPin χ a1).bind fun q1 => (if q1 = 0 then some ((χ, T), (-2 : Int32)) else ((f_X10_isForce a2).bind fun q3 => (if q3 = 0 then some ((χ, T), (-2 : Int32)) else ((f_X10_isForce a3).bind fun q5 => (if q5 = 0 then some ((χ, T), (-2 : Int32)) else (if inB a1 (lsz χ 0) = true then (if (gI χ 3 (gN χ 0 a1.toNatClampNeg)) = 0 then ((f_X10_renew (wI (wI χ 4 (gN χ 0 a1.toNatClampNeg) a2) 5 (gN χ 0 a1.toNatClampNeg) a3) T).bind fun q10 => some ((q10.1, q10.2), (1 : Int32))) else some ((χ, T), (-3 : Int32))) else none)))))))
def f_X10_load (χ : Mem) (T : Nat → Mem) (a1 : Int32) (a2 : Int32) (a3 : Int32) : Option ((Mem × (Nat → Mem)) × Int32) :=
  f_X10_load_0 χ T a1 a2 a3
section
variable {p : Program} {l : Launch} {e : Env} {s : State} {m : MethodId} {args : Array Value} {below : List Frame} {meth : Method} {c : Code} {g : Gc} {ad : Nat → Nat → Nat}
set_option maxRecDepth 100000 in
set_option maxHeartbeats 4000000 in
theorem t_X2_renew_83 {T : Nat → Mem} {σ : Mem} (C : Cx p s m args meth c cX2_renew 2 RX2 none COM g) {rr : Mem} : ∀ (n : Nat) (cl sl : Nat) (hcs : cl + (n * 1 + 0) ≤ 32 ∧ sl + (n * 21 + 0) ≤ 672) (χ : Mem) (v1 : Int32) (h : f_X2_renew_83 n χ v1 = some rr), JJ p l e rm_X2_renew s m args below meth c 2 g ad (MQ below (PoV g ad (rr) T σ) args s 32 672 (geB g)) χ T σ cl sl [(0, .ref (ad 1 0)), (1, .int v1)] 83 [] := by
  intro n
  induction n with
  | zero => intro cl sl hcs χ v1  h; cases h
  | succ n ih =>
  intro cl sl hcs χ v1  h
  rw [f_X2_renew_83] at h
  refine j_iload_n C 1 rfl rfl dX2_renew_83 ?_
  refine j_aload_n C 0 rfl rfl dX2_renew_84 ?_
  refine j_getG C in_X2 (by decide) cw_1 rfl 1 (by decide) mw_128 (fun _ h => h) rfl dX2_renew_85 ?_
  refine j_lsize C (by decide) mw_296 ⟨Nat.le_of_ble_eq_true rfl, Nat.le_of_ble_eq_true rfl⟩ (Nat.le_of_ble_eq_true rfl) dX2_renew_88 ⟨(by show _ ≤ 32; omega), (by show _ ≤ 672; omega)⟩ ?_
  refine j_icmp_ge (tgt := 144) C (by decide) dX2_renew_93 (fun hc1 => ?_) (fun hc1 => ?_)
  · replace h := (if_pos hc1).symm.trans h
    obtain rfl := Option.some.inj h
    exact j_vret C rfl (by omega) (by omega) dX2_renew_144
  · replace h := (if_neg hc1).symm.trans h
    refine j_aload_n C 0 rfl rfl dX2_renew_96 ?_
    refine j_getG C in_X2 (by decide) cw_1 rfl 1 (by decide) mw_128 (fun _ h => h) rfl dX2_renew_97 ?_
    refine j_iload_n C 1 rfl rfl dX2_renew_100 ?_
    obtain ⟨hg2, h⟩ := gd_some h
    refine j_wt (fun wt3 => ?_)
    refine j_lgetK (ek := 19) C (by decide) (by decide) hg2 mw_306 ⟨Nat.le_of_ble_eq_true rfl, Nat.le_of_ble_eq_true rfl⟩ (Nat.le_of_ble_eq_true rfl) dX2_renew_101 ⟨(by show _ ≤ 32; omega), (by show _ ≤ 672; omega)⟩ ?_
    refine j_castS (q := (RX5, TX5, 6)) C mw_449 (by decide) (cw_19 (χ := χ) (wt_19 wt3 (by decide) (by decide) hg2)) rfl dX2_renew_106 ?_
    refine j_getG C in_X5 (by decide) (cw_19 (χ := χ) (wt_19 wt3 (by decide) (by decide) hg2)) rfl 5 (by decide) mw_662 (fun _ h => h) rfl dX2_renew_109 ?_
    refine j_if_eq (tgt := 138) C (by decide) dX2_renew_112 (fun hc4 => ?_) (fun hc4 => ?_)
    · replace h := (if_pos hc4).symm.trans h
      refine j_iinc (v := v1 + (1 : Int32)) (L' := [(1, .int (v1 + (1 : Int32))), (0, .ref (ad 1 0))]) C 1 rfl rfl (by decide) rfl dX2_renew_138 ?_
      refine j_goto (tgt := 83) C (by decide) dX2_renew_141 ?_
      exact j_sub [1, 0] rfl (ih _ _ ⟨by omega, by omega⟩ χ (v1 + (1 : Int32)) h)
    · replace h := (if_neg hc4).symm.trans h
      refine j_aload_n C 0 rfl rfl dX2_renew_115 ?_
      refine j_getG C in_X2 (by decide) cw_1 rfl 3 (by decide) mw_136 (fun _ h => h) rfl dX2_renew_116 ?_
      refine j_aload_n C 0 rfl rfl dX2_renew_119 ?_
      refine j_getG C in_X2 (by decide) cw_1 rfl 1 (by decide) mw_128 (fun _ h => h) rfl dX2_renew_120 ?_
      refine j_iload_n C 1 rfl rfl dX2_renew_123 ?_
      refine j_wt (fun wt5 => ?_)
      refine j_lgetK (ek := 19) C (by decide) (by decide) hg2 mw_306 ⟨Nat.le_of_ble_eq_true rfl, Nat.le_of_ble_eq_true rfl⟩ (Nat.le_of_ble_eq_true rfl) dX2_renew_124 ⟨(by show _ ≤ 32; omega), (by show _ ≤ 672; omega)⟩ ?_
      refine j_castS (q := (RX5, TX5, 6)) C mw_449 (by decide) (cw_19 (χ := χ) (wt_19 wt5 (by decide) (by decide) hg2)) rfl dX2_renew_129 ?_
      obtain ⟨hg6, h⟩ := gd_some h
      refine j_lsaddK (ek := 19) C (by decide) (by decide) hg6 (elP_19 (by decide) (wt_19 wt5 (by decide) (by decide) hg2)) mw_448 ⟨Nat.le_of_ble_eq_true rfl, Nat.le_of_ble_eq_true rfl⟩ (Nat.le_of_ble_eq_true rfl) dX2_renew_132 ⟨(by show _ ≤ 32; omega), (by show _ ≤ 672; omega)⟩ ?_
      refine j_pop C rfl dX2_renew_137 ?_
      refine j_iinc (v := v1 + (1 : Int32)) (L' := [(1, .int (v1 + (1 : Int32))), (0, .ref (ad 1 0))]) C 1 rfl rfl (by decide) rfl dX2_renew_138 ?_
      refine j_goto (tgt := 83) C (by decide) dX2_renew_141 ?_
      exact j_sub [1, 0] rfl (ih _ _ ⟨by omega, by omega⟩ (lAdd χ 3 (gN χ 1 v1.toNatClampNeg)) (v1 + (1 : Int32)) h)
set_option maxRecDepth 100000 in
set_option maxHeartbeats 4000000 in
theorem t_X2_renew_11 {T : Nat → Mem} {σ : Mem} (C : Cx p s m args meth c cX2_renew 2 RX2 none COM g) {rr : Mem} : ∀ (n : Nat) (cl sl : Nat) (hcs : cl + (n * 1 + 16) ≤ 32 ∧ sl + (n * 21 + 336) ≤ 672) (χ : Mem) (v1 : Int32) (h : f_X2_renew_11 n χ v1 = some rr), JJ p l e rm_X2_renew s m args below meth c 2 g ad (MQ below (PoV g ad (rr) T σ) args s 32 672 (geB g)) χ T σ cl sl [(0, .ref (ad 1 0)), (1, .int v1)] 11 [] := by
  intro n
  induction n with
  | zero => intro cl sl hcs χ v1  h; cases h
  | succ n ih =>
  intro cl sl hcs χ v1  h
  rw [f_X2_renew_11] at h
  refine j_iload_n C 1 rfl rfl dX2_renew_11 ?_
  refine j_aload_n C 0 rfl rfl dX2_renew_12 ?_
  refine j_getG C in_X2 (by decide) cw_1 rfl 0 (by decide) mw_124 (fun _ h => h) rfl dX2_renew_13 ?_
  refine j_lsize C (by decide) mw_296 ⟨Nat.le_of_ble_eq_true rfl, Nat.le_of_ble_eq_true rfl⟩ (Nat.le_of_ble_eq_true rfl) dX2_renew_16 ⟨(by show _ ≤ 32; omega), (by show _ ≤ 672; omega)⟩ ?_
  refine j_icmp_ge (tgt := 72) C (by decide) dX2_renew_21 (fun hc1 => ?_) (fun hc1 => ?_)
  · replace h := (if_pos hc1).symm.trans h
    refine j_aload_n C 0 rfl rfl dX2_renew_72 ?_
    refine j_getG C in_X2 (by decide) cw_1 rfl 3 (by decide) mw_136 (fun _ h => h) rfl dX2_renew_73 ?_
    refine j_lclear C (by decide) mw_439 ⟨Nat.le_of_ble_eq_true rfl, Nat.le_of_ble_eq_true rfl⟩ (Nat.le_of_ble_eq_true rfl) dX2_renew_76 ⟨(by show _ ≤ 32; omega), (by show _ ≤ 672; omega)⟩ ?_
    refine j_iconst (v := 0) C (by decide) dX2_renew_81 ?_
    refine j_istore_n (L' := [(1, .int (0 : Int32)), (0, .ref (ad 1 0))]) C rfl (by decide) rfl dX2_renew_82 ?_
    exact j_sub [1, 0] rfl (t_X2_renew_83 C 16 _ _ ⟨by omega, by omega⟩ (lClr χ 3) (0 : Int32) h)
  · replace h := (if_neg hc1).symm.trans h
    refine j_aload_n C 0 rfl rfl dX2_renew_24 ?_
    refine j_getG C in_X2 (by decide) cw_1 rfl 0 (by decide) mw_124 (fun _ h => h) rfl dX2_renew_25 ?_
    refine j_iload_n C 1 rfl rfl dX2_renew_28 ?_
    obtain ⟨hg2, h⟩ := gd_some h
    refine j_wt (fun wt3 => ?_)
    refine j_lgetK (ek := 18) C (by decide) (by decide) hg2 mw_306 ⟨Nat.le_of_ble_eq_true rfl, Nat.le_of_ble_eq_true rfl⟩ (Nat.le_of_ble_eq_true rfl) dX2_renew_29 ⟨(by show _ ≤ 32; omega), (by show _ ≤ 672; omega)⟩ ?_
    refine j_castS (q := (RX4, TX4, 6)) C mw_324 (by decide) (cw_18 (χ := χ) (wt_18 wt3 (by decide) (by decide) hg2)) rfl dX2_renew_34 ?_
    refine j_getG C in_X4 (by decide) (cw_18 (χ := χ) (wt_18 wt3 (by decide) (by decide) hg2)) rfl 3 (by decide) mw_345 (fun _ h => h) rfl dX2_renew_37 ?_
    refine j_if_ne (tgt := 66) C (by decide) dX2_renew_40 (fun hc4 => ?_) (fun hc4 => ?_)
    · replace h := (if_neg hc4).symm.trans h
      refine j_iinc (v := v1 + (1 : Int32)) (L' := [(1, .int (v1 + (1 : Int32))), (0, .ref (ad 1 0))]) C 1 rfl rfl (by decide) rfl dX2_renew_66 ?_
      refine j_goto (tgt := 11) C (by decide) dX2_renew_69 ?_
      exact j_sub [1, 0] rfl (ih _ _ ⟨by omega, by omega⟩ χ (v1 + (1 : Int32)) h)
    · replace h := (if_pos hc4).symm.trans h
      refine j_aload_n C 0 rfl rfl dX2_renew_43 ?_
      refine j_getG C in_X2 (by decide) cw_1 rfl 2 (by decide) mw_132 (fun _ h => h) rfl dX2_renew_44 ?_
      refine j_aload_n C 0 rfl rfl dX2_renew_47 ?_
      refine j_getG C in_X2 (by decide) cw_1 rfl 0 (by decide) mw_124 (fun _ h => h) rfl dX2_renew_48 ?_
      refine j_iload_n C 1 rfl rfl dX2_renew_51 ?_
      refine j_wt (fun wt5 => ?_)
      refine j_lgetK (ek := 18) C (by decide) (by decide) hg2 mw_306 ⟨Nat.le_of_ble_eq_true rfl, Nat.le_of_ble_eq_true rfl⟩ (Nat.le_of_ble_eq_true rfl) dX2_renew_52 ⟨(by show _ ≤ 32; omega), (by show _ ≤ 672; omega)⟩ ?_
      refine j_castS (q := (RX4, TX4, 6)) C mw_324 (by decide) (cw_18 (χ := χ) (wt_18 wt5 (by decide) (by decide) hg2)) rfl dX2_renew_57 ?_
      obtain ⟨hg6, h⟩ := gd_some h
      refine j_lsaddK (ek := 18) C (by decide) (by decide) hg6 (elP_18 (by decide) (wt_18 wt5 (by decide) (by decide) hg2)) mw_448 ⟨Nat.le_of_ble_eq_true rfl, Nat.le_of_ble_eq_true rfl⟩ (Nat.le_of_ble_eq_true rfl) dX2_renew_60 ⟨(by show _ ≤ 32; omega), (by show _ ≤ 672; omega)⟩ ?_
      refine j_pop C rfl dX2_renew_65 ?_
      refine j_iinc (v := v1 + (1 : Int32)) (L' := [(1, .int (v1 + (1 : Int32))), (0, .ref (ad 1 0))]) C 1 rfl rfl (by decide) rfl dX2_renew_66 ?_
      refine j_goto (tgt := 11) C (by decide) dX2_renew_69 ?_
      exact j_sub [1, 0] rfl (ih _ _ ⟨by omega, by omega⟩ (lAdd χ 2 (gN χ 0 v1.toNatClampNeg)) (v1 + (1 : Int32)) h)
set_option maxRecDepth 100000 in
set_option maxHeartbeats 4000000 in
theorem t_X2_renew_0 {T : Nat → Mem} {σ : Mem} (C : Cx p s m args meth c cX2_renew 2 RX2 none COM g) {rr : Mem} (cl sl : Nat) (hcs : cl + (32) ≤ 32 ∧ sl + (672) ≤ 672) (χ : Mem) (h : f_X2_renew_0 χ = some rr) : JJ p l e rm_X2_renew s m args below meth c 2 g ad (MQ below (PoV g ad (rr) T σ) args s 32 672 (geB g)) χ T σ cl sl [(0, .ref (ad 1 0))] 0 [] := by
  rw [f_X2_renew_0] at h
  refine j_aload_n C 0 rfl rfl dX2_renew_0 ?_
  refine j_getG C in_X2 (by decide) cw_1 rfl 2 (by decide) mw_132 (fun _ h => h) rfl dX2_renew_1 ?_
  refine j_lclear C (by decide) mw_439 ⟨Nat.le_of_ble_eq_true rfl, Nat.le_of_ble_eq_true rfl⟩ (Nat.le_of_ble_eq_true rfl) dX2_renew_4 ⟨(by show _ ≤ 32; omega), (by show _ ≤ 672; omega)⟩ ?_
  refine j_iconst (v := 0) C (by decide) dX2_renew_9 ?_
  refine j_istore_n (L' := [(1, .int (0 : Int32)), (0, .ref (ad 1 0))]) C rfl (by decide) rfl dX2_renew_10 ?_
  exact j_sub [1, 0] rfl (t_X2_renew_11 C 16 _ _ ⟨by omega, by omega⟩ (lClr χ 2) (0 : Int32) h)
set_option maxRecDepth 100000 in
set_option maxHeartbeats 4000000 in
theorem c_X2_renew {l : Launch} {g : Gc} {ad : Nat → Nat → Nat} {χ : Mem} {T : Nat → Mem} {σ : Mem} {rr : Mem} (h : f_X2_renew χ = some rr) : Met l yX2_renew (WS yX2_renew cX2_renew 2 none) rm_X2_renew (PreW g ad χ T σ [.ref (ad 1 0)]) (PoV g ad (rr) T σ) 32 672 (geB g) := by
  refine j_metW (by decide) (Nat.le_of_ble_eq_true rfl) fun p e s m below meth c C hname => ?_
  rw [f_X2_renew] at h
  exact j_sub [0] rfl (t_X2_renew_0 C 0 0 ⟨Nat.le_of_ble_eq_true rfl, Nat.le_of_ble_eq_true rfl⟩ χ h)
set_option maxRecDepth 100000 in
set_option maxHeartbeats 4000000 in
theorem t_X3_queueRodsIn_11 {σ : Mem} (C : Cx p s m args meth c cX3_queueRodsIn 2 RX3 none COM g) {rr : (Mem × (Nat → Mem))} : ∀ (n : Nat) (cl sl : Nat) (hcs : cl + (n * 1 + 0) ≤ 16 ∧ sl + (n * 21 + 0) ≤ 336) (χ : Mem) (T : Nat → Mem) (v1 : Int32) (h : f_X3_queueRodsIn_11 n χ T v1 = some rr), JJ p l e rm_X3_queueRodsIn s m args below meth c 2 g ad (MQ below (PoV g ad rr.1 rr.2 σ) args s 16 336 (geB g)) χ T σ cl sl [(0, .ref (ad 3 0)), (1, .int v1)] 11 [] := by
  intro n
  induction n with
  | zero => intro cl sl hcs χ T v1  h; cases h
  | succ n ih =>
  intro cl sl hcs χ T v1  h
  rw [f_X3_queueRodsIn_11] at h
  refine j_iload_n C 1 rfl rfl dX3_queueRodsIn_11 ?_
  refine j_aload_n C 0 rfl rfl dX3_queueRodsIn_12 ?_
  refine j_getG C in_X3 (by decide) cw_3 rfl 0 (by decide) mw_212 (fun _ h => h) rfl dX3_queueRodsIn_13 ?_
  refine j_getG C in_X2 (by decide) cw_1 rfl 3 (by decide) mw_138 (fun _ h => h) rfl dX3_queueRodsIn_16 ?_
  refine j_lsize C (by decide) mw_537 ⟨Nat.le_of_ble_eq_true rfl, Nat.le_of_ble_eq_true rfl⟩ (Nat.le_of_ble_eq_true rfl) dX3_queueRodsIn_19 ⟨(by show _ ≤ 16; omega), (by show _ ≤ 336; omega)⟩ ?_
  refine j_icmp_ge (tgt := 59) C (by decide) dX3_queueRodsIn_24 (fun hc1 => ?_) (fun hc1 => ?_)
  · replace h := (if_pos hc1).symm.trans h
    obtain rfl := Option.some.inj h
    exact j_vret C rfl (by omega) (by omega) dX3_queueRodsIn_59
  · replace h := (if_neg hc1).symm.trans h
    refine j_aload_n C 0 rfl rfl dX3_queueRodsIn_27 ?_
    refine j_getG C in_X3 (by decide) cw_3 rfl 1 (by decide) mw_213 (fun _ h => h) rfl dX3_queueRodsIn_28 ?_
    refine j_aload_n C 0 rfl rfl dX3_queueRodsIn_31 ?_
    refine j_getG C in_X3 (by decide) cw_3 rfl 0 (by decide) mw_212 (fun _ h => h) rfl dX3_queueRodsIn_32 ?_
    refine j_getG C in_X2 (by decide) cw_1 rfl 3 (by decide) mw_138 (fun _ h => h) rfl dX3_queueRodsIn_35 ?_
    refine j_iload_n C 1 rfl rfl dX3_queueRodsIn_38 ?_
    obtain ⟨hg2, h⟩ := gd_some h
    refine j_wt (fun wt3 => ?_)
    refine j_lgetK (ek := 19) C (by decide) (by decide) hg2 mw_539 ⟨Nat.le_of_ble_eq_true rfl, Nat.le_of_ble_eq_true rfl⟩ (Nat.le_of_ble_eq_true rfl) dX3_queueRodsIn_39 ⟨(by show _ ≤ 16; omega), (by show _ ≤ 336; omega)⟩ ?_
    refine j_castS (q := (RX5, TX5, 6)) C mw_540 (by decide) (cw_19 (χ := χ) (wt_19 wt3 (by decide) (by decide) hg2)) rfl dX3_queueRodsIn_44 ?_
    obtain ⟨hg4, h⟩ := gd_some h
    refine j_lsaddK (ek := 19) C (by decide) (by decide) hg4 (elP_19 (by decide) (wt_19 wt3 (by decide) (by decide) hg2)) mw_542 ⟨Nat.le_of_ble_eq_true rfl, Nat.le_of_ble_eq_true rfl⟩ (Nat.le_of_ble_eq_true rfl) dX3_queueRodsIn_47 ⟨(by show _ ≤ 16; omega), (by show _ ≤ 336; omega)⟩ ?_
    refine j_pop C rfl dX3_queueRodsIn_52 ?_
    refine j_iinc (v := v1 + (1 : Int32)) (L' := [(1, .int (v1 + (1 : Int32))), (0, .ref (ad 3 0))]) C 1 rfl rfl (by decide) rfl dX3_queueRodsIn_53 ?_
    refine j_goto (tgt := 11) C (by decide) dX3_queueRodsIn_56 ?_
    exact j_sub [1, 0] rfl (ih _ _ ⟨by omega, by omega⟩ (lAdd χ 4 (gN χ 3 v1.toNatClampNeg)) T (v1 + (1 : Int32)) h)
set_option maxRecDepth 100000 in
set_option maxHeartbeats 4000000 in
theorem t_X3_queueRodsIn_0 {σ : Mem} (C : Cx p s m args meth c cX3_queueRodsIn 2 RX3 none COM g) {rr : (Mem × (Nat → Mem))} (cl sl : Nat) (hcs : cl + (16) ≤ 16 ∧ sl + (336) ≤ 336) (χ : Mem) (T : Nat → Mem) (h : f_X3_queueRodsIn_0 χ T = some rr) : JJ p l e rm_X3_queueRodsIn s m args below meth c 2 g ad (MQ below (PoV g ad rr.1 rr.2 σ) args s 16 336 (geB g)) χ T σ cl sl [(0, .ref (ad 3 0))] 0 [] := by
  rw [f_X3_queueRodsIn_0] at h
  refine j_aload_n C 0 rfl rfl dX3_queueRodsIn_0 ?_
  refine j_getG C in_X3 (by decide) cw_3 rfl 1 (by decide) mw_213 (fun _ h => h) rfl dX3_queueRodsIn_1 ?_
  refine j_lclear C (by decide) mw_535 ⟨Nat.le_of_ble_eq_true rfl, Nat.le_of_ble_eq_true rfl⟩ (Nat.le_of_ble_eq_true rfl) dX3_queueRodsIn_4 ⟨(by show _ ≤ 16; omega), (by show _ ≤ 336; omega)⟩ ?_
  refine j_iconst (v := 0) C (by decide) dX3_queueRodsIn_9 ?_
  refine j_istore_n (L' := [(1, .int (0 : Int32)), (0, .ref (ad 3 0))]) C rfl (by decide) rfl dX3_queueRodsIn_10 ?_
  exact j_sub [1, 0] rfl (t_X3_queueRodsIn_11 C 16 _ _ ⟨by omega, by omega⟩ (lClr χ 4) T (0 : Int32) h)
set_option maxRecDepth 100000 in
set_option maxHeartbeats 4000000 in
theorem c_X3_queueRodsIn {l : Launch} {g : Gc} {ad : Nat → Nat → Nat} {χ : Mem} {T : Nat → Mem} {σ : Mem} {rr : (Mem × (Nat → Mem))} (h : f_X3_queueRodsIn χ T = some rr) : Met l yX3_queueRodsIn (WS yX3_queueRodsIn cX3_queueRodsIn 2 none) rm_X3_queueRodsIn (PreW g ad χ T σ [.ref (ad 3 0)]) (PoV g ad rr.1 rr.2 σ) 16 336 (geB g) := by
  refine j_metW (by decide) (Nat.le_of_ble_eq_true rfl) fun p e s m below meth c C hname => ?_
  rw [f_X3_queueRodsIn] at h
  exact j_sub [0] rfl (t_X3_queueRodsIn_0 C 0 0 ⟨Nat.le_of_ble_eq_true rfl, Nat.le_of_ble_eq_true rfl⟩ χ T h)
set_option maxRecDepth 100000 in
set_option maxHeartbeats 4000000 in
theorem t_X3_queueRodsOut_99 {σ : Mem} (C : Cx p s m args meth c cX3_queueRodsOut 4 RX3 none COM g) {rr : (Mem × (Nat → Mem))} {N N2 : Nat} {k2 : Mem → (Nat → Mem) → Int32 → Option ((Mem × (Nat → Mem)))} (hk2 : ∀ (cl sl : Nat) (hcs : cl + N ≤ 16 ∧ sl + N2 ≤ 336) (χ : Mem) (T : Nat → Mem) (v1 : Int32) , k2 χ T v1 = some rr → JJ p l e rm_X3_queueRodsOut s m args below meth c 4 g ad (MQ below (PoV g ad rr.1 rr.2 σ) args s 16 336 (geB g)) χ T σ cl sl [(0, .ref (ad 3 0)), (1, .int v1)] 2 []) (cl sl : Nat) (hcs : cl + (1 + N) ≤ 16 ∧ sl + (21 + N2) ≤ 336) (χ : Mem) (T : Nat → Mem) (v1 : Int32) (v2 : Nat) (v3 : Int32) (hv2 : v2 < gN χ 8 1) (h : f_X3_queueRodsOut_99 k2 χ T v1 v2 v3 = some rr) : JJ p l e rm_X3_queueRodsOut s m args below meth c 4 g ad (MQ below (PoV g ad rr.1 rr.2 σ) args s 16 336 (geB g)) χ T σ cl sl [(0, .ref (ad 3 0)), (1, .int v1), (2, .ref (ad 19 v2)), (3, .int v3)] 99 [] := by
  rw [f_X3_queueRodsOut_99] at h
  refine j_aload_n C 0 rfl rfl dX3_queueRodsOut_99 ?_
  refine j_getG C in_X3 (by decide) cw_3 rfl 1 (by decide) mw_213 (fun _ h => h) rfl dX3_queueRodsOut_100 ?_
  refine j_iload_n C 3 rfl rfl dX3_queueRodsOut_103 ?_
  refine j_aload_n C 2 rfl rfl dX3_queueRodsOut_104 ?_
  obtain ⟨hg1, h⟩ := gd_some h
  obtain ⟨hg2, h⟩ := gd_some h
  refine j_laddAtK (ek := 19) C (by decide) (by decide) hg2 hg1 (elP_19 (by decide) hv2) mw_548 ⟨Nat.le_of_ble_eq_true rfl, Nat.le_of_ble_eq_true rfl⟩ (Nat.le_of_ble_eq_true rfl) dX3_queueRodsOut_105 ⟨(by show _ ≤ 16; omega), (by show _ ≤ 336; omega)⟩ ?_
  refine j_iinc (v := v1 + (1 : Int32)) (L' := [(1, .int (v1 + (1 : Int32))), (0, .ref (ad 3 0)), (2, .ref (ad 19 v2)), (3, .int v3)]) C 1 rfl rfl (by decide) rfl dX3_queueRodsOut_110 ?_
  refine j_goto (tgt := 2) C (by decide) dX3_queueRodsOut_113 ?_
  exact j_sub [1, 0] rfl (hk2 _ _ ⟨by omega, by omega⟩ (lAddAt χ 4 v3.toNatClampNeg v2) T (v1 + (1 : Int32)) h)
set_option maxRecDepth 100000 in
set_option maxHeartbeats 4000000 in
theorem t_X3_queueRodsOut_52 {σ : Mem} (C : Cx p s m args meth c cX3_queueRodsOut 4 RX3 none COM g) {rr : (Mem × (Nat → Mem))} {N N2 : Nat} {k2 : Mem → (Nat → Mem) → Int32 → Option ((Mem × (Nat → Mem)))} (hk2 : ∀ (cl sl : Nat) (hcs : cl + N ≤ 16 ∧ sl + N2 ≤ 336) (χ : Mem) (T : Nat → Mem) (v1 : Int32) , k2 χ T v1 = some rr → JJ p l e rm_X3_queueRodsOut s m args below meth c 4 g ad (MQ below (PoV g ad rr.1 rr.2 σ) args s 16 336 (geB g)) χ T σ cl sl [(0, .ref (ad 3 0)), (1, .int v1)] 2 []) : ∀ (n : Nat) (cl sl : Nat) (hcs : cl + (n * 0 + 1 + N) ≤ 16 ∧ sl + (n * 0 + 21 + N2) ≤ 336) (χ : Mem) (T : Nat → Mem) (v1 : Int32) (v2 : Nat) (v3 : Int32) (hv2 : v2 < gN χ 8 1) (h : f_X3_queueRodsOut_52 k2 n χ T v1 v2 v3 = some rr), JJ p l e rm_X3_queueRodsOut s m args below meth c 4 g ad (MQ below (PoV g ad rr.1 rr.2 σ) args s 16 336 (geB g)) χ T σ cl sl [(0, .ref (ad 3 0)), (1, .int v1), (2, .ref (ad 19 v2)), (3, .int v3)] 52 [] := by
  intro n
  induction n with
  | zero => intro cl sl hcs χ T v1 v2 v3 hv2 h; cases h
  | succ n ih =>
  intro cl sl hcs χ T v1 v2 v3 hv2 h
  rw [f_X3_queueRodsOut_52] at h
  refine j_iload_n C 3 rfl rfl dX3_queueRodsOut_52 ?_
  refine j_aload_n C 0 rfl rfl dX3_queueRodsOut_53 ?_
  refine j_getG C in_X3 (by decide) cw_3 rfl 0 (by decide) mw_212 (fun _ h => h) rfl dX3_queueRodsOut_54 ?_
  refine j_getG C in_X2 (by decide) cw_1 rfl 3 (by decide) mw_138 (fun _ h => h) rfl dX3_queueRodsOut_57 ?_
  refine j_lsize C (by decide) mw_537 ⟨Nat.le_of_ble_eq_true rfl, Nat.le_of_ble_eq_true rfl⟩ (Nat.le_of_ble_eq_true rfl) dX3_queueRodsOut_60 ⟨(by show _ ≤ 16; omega), (by show _ ≤ 336; omega)⟩ ?_
  refine j_icmp_le (tgt := 99) C (by decide) dX3_queueRodsOut_65 (fun hc1 => ?_) (fun hc1 => ?_)
  · replace h := (if_pos hc1).symm.trans h
    exact j_sub [0, 1, 2, 3] rfl (t_X3_queueRodsOut_99 (N := N) (N2 := N2) C (fun cl9 sl9 hc9 => hk2 cl9 sl9 ⟨by omega, by omega⟩) _ _ ⟨by omega, by omega⟩ χ T v1 v2 v3 hv2 h)
  · replace h := (if_neg hc1).symm.trans h
    refine j_aload_n C 0 rfl rfl dX3_queueRodsOut_68 ?_
    refine j_getG C in_X3 (by decide) cw_3 rfl 1 (by decide) mw_213 (fun _ h => h) rfl dX3_queueRodsOut_69 ?_
    refine j_iload_n C 3 rfl rfl dX3_queueRodsOut_72 ?_
    refine j_iconst (v := 1) C (by decide) dX3_queueRodsOut_73 ?_
    refine j_isub C dX3_queueRodsOut_74 ?_
    obtain ⟨hg2, h⟩ := gd_some h
    refine j_wt (fun wt3 => ?_)
    refine j_lgetK (ek := 19) C (by decide) (by decide) hg2 mw_539 ⟨Nat.le_of_ble_eq_true rfl, Nat.le_of_ble_eq_true rfl⟩ (Nat.le_of_ble_eq_true rfl) dX3_queueRodsOut_75 ⟨(by show _ ≤ 16; omega), (by show _ ≤ 336; omega)⟩ ?_
    refine j_castS (q := (RX5, TX5, 6)) C mw_540 (by decide) (cw_19 (χ := χ) (wt_19 wt3 (by decide) (by decide) hg2)) rfl dX3_queueRodsOut_80 ?_
    refine j_getG C in_X5 (by decide) (cw_19 (χ := χ) (wt_19 wt3 (by decide) (by decide) hg2)) rfl 4 (by decide) mw_658 (fun _ h => h) rfl dX3_queueRodsOut_83 ?_
    refine j_aload_n C 2 rfl rfl dX3_queueRodsOut_86 ?_
    refine j_getG C in_X5 (by decide) (cw_19 (χ := χ) hv2) rfl 4 (by decide) mw_658 (fun _ h => h) rfl dX3_queueRodsOut_87 ?_
    refine j_icmp_le (tgt := 99) C (by decide) dX3_queueRodsOut_90 (fun hc4 => ?_) (fun hc4 => ?_)
    · replace h := (if_pos hc4).symm.trans h
      exact j_sub [0, 1, 2, 3] rfl (t_X3_queueRodsOut_99 (N := N) (N2 := N2) C (fun cl9 sl9 hc9 => hk2 cl9 sl9 ⟨by omega, by omega⟩) _ _ ⟨by omega, by omega⟩ χ T v1 v2 v3 hv2 h)
    · replace h := (if_neg hc4).symm.trans h
      refine j_iinc (v := v3 + (-1 : Int32)) (L' := [(3, .int (v3 + (-1 : Int32))), (0, .ref (ad 3 0)), (1, .int v1), (2, .ref (ad 19 v2))]) C 3 rfl (congrArg (fun z => v3 + z) (by decide)) (by decide) rfl dX3_queueRodsOut_93 ?_
      refine j_goto (tgt := 52) C (by decide) dX3_queueRodsOut_96 ?_
      exact j_sub [1, 2, 3, 0] rfl (ih _ _ ⟨by omega, by omega⟩ χ T v1 v2 (v3 + (-1 : Int32)) hv2 h)
set_option maxRecDepth 100000 in
set_option maxHeartbeats 4000000 in
theorem t_X3_queueRodsOut_2 {σ : Mem} (C : Cx p s m args meth c cX3_queueRodsOut 4 RX3 none COM g) {rr : (Mem × (Nat → Mem))} : ∀ (n : Nat) (cl sl : Nat) (hcs : cl + (n * 1 + 0) ≤ 16 ∧ sl + (n * 21 + 0) ≤ 336) (χ : Mem) (T : Nat → Mem) (v1 : Int32) (h : f_X3_queueRodsOut_2 n χ T v1 = some rr), JJ p l e rm_X3_queueRodsOut s m args below meth c 4 g ad (MQ below (PoV g ad rr.1 rr.2 σ) args s 16 336 (geB g)) χ T σ cl sl [(0, .ref (ad 3 0)), (1, .int v1)] 2 [] := by
  intro n
  induction n with
  | zero => intro cl sl hcs χ T v1  h; cases h
  | succ n ih =>
  intro cl sl hcs χ T v1  h
  rw [f_X3_queueRodsOut_2] at h
  refine j_iload_n C 1 rfl rfl dX3_queueRodsOut_2 ?_
  refine j_aload_n C 0 rfl rfl dX3_queueRodsOut_3 ?_
  refine j_getG C in_X3 (by decide) cw_3 rfl 0 (by decide) mw_212 (fun _ h => h) rfl dX3_queueRodsOut_4 ?_
  refine j_getG C in_X2 (by decide) cw_1 rfl 1 (by decide) mw_130 (fun _ h => h) rfl dX3_queueRodsOut_7 ?_
  refine j_lsize C (by decide) mw_537 ⟨Nat.le_of_ble_eq_true rfl, Nat.le_of_ble_eq_true rfl⟩ (Nat.le_of_ble_eq_true rfl) dX3_queueRodsOut_10 ⟨(by show _ ≤ 16; omega), (by show _ ≤ 336; omega)⟩ ?_
  refine j_icmp_ge (tgt := 116) C (by decide) dX3_queueRodsOut_15 (fun hc1 => ?_) (fun hc1 => ?_)
  · replace h := (if_pos hc1).symm.trans h
    obtain rfl := Option.some.inj h
    exact j_vret C rfl (by omega) (by omega) dX3_queueRodsOut_116
  · replace h := (if_neg hc1).symm.trans h
    refine j_aload_n C 0 rfl rfl dX3_queueRodsOut_18 ?_
    refine j_getG C in_X3 (by decide) cw_3 rfl 0 (by decide) mw_212 (fun _ h => h) rfl dX3_queueRodsOut_19 ?_
    refine j_getG C in_X2 (by decide) cw_1 rfl 1 (by decide) mw_130 (fun _ h => h) rfl dX3_queueRodsOut_22 ?_
    refine j_iload_n C 1 rfl rfl dX3_queueRodsOut_25 ?_
    obtain ⟨hg2, h⟩ := gd_some h
    refine j_wt (fun wt3 => ?_)
    refine j_lgetK (ek := 19) C (by decide) (by decide) hg2 mw_539 ⟨Nat.le_of_ble_eq_true rfl, Nat.le_of_ble_eq_true rfl⟩ (Nat.le_of_ble_eq_true rfl) dX3_queueRodsOut_26 ⟨(by show _ ≤ 16; omega), (by show _ ≤ 336; omega)⟩ ?_
    refine j_castS (q := (RX5, TX5, 6)) C mw_540 (by decide) (cw_19 (χ := χ) (wt_19 wt3 (by decide) (by decide) hg2)) rfl dX3_queueRodsOut_31 ?_
    refine j_astore_n (L' := [(2, .ref (ad 19 (gN χ 1 v1.toNatClampNeg))), (0, .ref (ad 3 0)), (1, .int v1)]) C rfl (by decide) rfl dX3_queueRodsOut_34 ?_
    refine j_aload_n C 0 rfl rfl dX3_queueRodsOut_35 ?_
    refine j_getG C in_X5 (by decide) (cw_19 (χ := χ) (wt_19 wt3 (by decide) (by decide) hg2)) rfl 5 (by decide) mw_665 (fun _ h => h) rfl dX3_queueRodsOut_36 ?_
    refine j_if_ne (tgt := 110) C (by decide) dX3_queueRodsOut_39 (fun hc4 => ?_) (fun hc4 => ?_)
    · replace h := (if_neg hc4).symm.trans h
      refine j_iinc (v := v1 + (1 : Int32)) (L' := [(1, .int (v1 + (1 : Int32))), (2, .ref (ad 19 (gN χ 1 v1.toNatClampNeg))), (0, .ref (ad 3 0))]) C 2 rfl rfl (by decide) rfl dX3_queueRodsOut_110 ?_
      refine j_goto (tgt := 2) C (by decide) dX3_queueRodsOut_113 ?_
      exact j_sub [2, 0] rfl (ih _ _ ⟨by omega, by omega⟩ χ T (v1 + (1 : Int32)) h)
    · replace h := (if_pos hc4).symm.trans h
      refine j_aload_n C 1 rfl rfl dX3_queueRodsOut_42 ?_
      refine j_getG C in_X3 (by decide) cw_3 rfl 1 (by decide) mw_213 (fun _ h => h) rfl dX3_queueRodsOut_43 ?_
      refine j_lsize C (by decide) mw_537 ⟨Nat.le_of_ble_eq_true rfl, Nat.le_of_ble_eq_true rfl⟩ (Nat.le_of_ble_eq_true rfl) dX3_queueRodsOut_46 ⟨(by show _ ≤ 16; omega), (by show _ ≤ 336; omega)⟩ ?_
      refine j_istore_n (L' := [(3, .int (gI χ 14 4)), (2, .ref (ad 19 (gN χ 1 v1.toNatClampNeg))), (0, .ref (ad 3 0)), (1, .int v1)]) C rfl (by decide) rfl dX3_queueRodsOut_51 ?_
      exact j_sub [2, 3, 1, 0] rfl (t_X3_queueRodsOut_52 (N := (n * 1 + 0)) (N2 := (n * 21 + 0)) C (fun cl9 sl9 hc9 => ih cl9 sl9 ⟨by omega, by omega⟩) 16 _ _ ⟨by omega, by omega⟩ χ T v1 (gN χ 1 v1.toNatClampNeg) (gI χ 14 4) (wt_19 wt3 (by decide) (by decide) hg2) h)
set_option maxRecDepth 100000 in
set_option maxHeartbeats 4000000 in
theorem t_X3_queueRodsOut_0 {σ : Mem} (C : Cx p s m args meth c cX3_queueRodsOut 4 RX3 none COM g) {rr : (Mem × (Nat → Mem))} (cl sl : Nat) (hcs : cl + (16) ≤ 16 ∧ sl + (336) ≤ 336) (χ : Mem) (T : Nat → Mem) (h : f_X3_queueRodsOut_0 χ T = some rr) : JJ p l e rm_X3_queueRodsOut s m args below meth c 4 g ad (MQ below (PoV g ad rr.1 rr.2 σ) args s 16 336 (geB g)) χ T σ cl sl [(0, .ref (ad 3 0))] 0 [] := by
  rw [f_X3_queueRodsOut_0] at h
  refine j_iconst (v := 0) C (by decide) dX3_queueRodsOut_0 ?_
  refine j_istore_n (L' := [(1, .int (0 : Int32)), (0, .ref (ad 3 0))]) C rfl (by decide) rfl dX3_queueRodsOut_1 ?_
  exact j_sub [1, 0] rfl (t_X3_queueRodsOut_2 C 16 _ _ ⟨by omega, by omega⟩ χ T (0 : Int32) h)
set_option maxRecDepth 100000 in
set_option maxHeartbeats 4000000 in
theorem c_X3_queueRodsOut {l : Launch} {g : Gc} {ad : Nat → Nat → Nat} {χ : Mem} {T : Nat → Mem} {σ : Mem} {rr : (Mem × (Nat → Mem))} (h : f_X3_queueRodsOut χ T = some rr) : Met l yX3_queueRodsOut (WS yX3_queueRodsOut cX3_queueRodsOut 4 none) rm_X3_queueRodsOut (PreW g ad χ T σ [.ref (ad 3 0)]) (PoV g ad rr.1 rr.2 σ) 16 336 (geB g) := by
  refine j_metW (by decide) (Nat.le_of_ble_eq_true rfl) fun p e s m below meth c C hname => ?_
  rw [f_X3_queueRodsOut] at h
  exact j_sub [0] rfl (t_X3_queueRodsOut_0 C 0 0 ⟨Nat.le_of_ble_eq_true rfl, Nat.le_of_ble_eq_true rfl⟩ χ T h)
set_option maxRecDepth 100000 in
set_option maxHeartbeats 4000000 in
theorem t_X3_renew_55 {σ : Mem} (C : Cx p s m args meth c cX3_renew 2 RX3 none COM g) {rr : (Mem × (Nat → Mem))} : ∀ (n : Nat) (cl sl : Nat) (hcs : cl + (n * 1 + 0) ≤ 48 ∧ sl + (n * 21 + 0) ≤ 1008) (χ : Mem) (T : Nat → Mem) (v1 : Int32) (h : f_X3_renew_55 n χ T v1 = some rr), JJ p l e rm_X3_renew s m args below meth c 2 g ad (MQ below (PoV g ad rr.1 rr.2 σ) args s 48 1008 (geB g)) χ T σ cl sl [(0, .ref (ad 3 0)), (1, .int v1)] 55 [] := by
  intro n
  induction n with
  | zero => intro cl sl hcs χ T v1  h; cases h
  | succ n ih =>
  intro cl sl hcs χ T v1  h
  rw [f_X3_renew_55] at h
  refine j_iload_n C 1 rfl rfl dX3_renew_55 ?_
  refine j_aload_n C 0 rfl rfl dX3_renew_56 ?_
  refine j_getG C in_X3 (by decide) cw_3 rfl 1 (by decide) mw_213 (fun _ h => h) rfl dX3_renew_57 ?_
  refine j_lsize C (by decide) mw_537 ⟨Nat.le_of_ble_eq_true rfl, Nat.le_of_ble_eq_true rfl⟩ (Nat.le_of_ble_eq_true rfl) dX3_renew_60 ⟨(by show _ ≤ 48; omega), (by show _ ≤ 1008; omega)⟩ ?_
  refine j_icmp_ge (tgt := 108) C (by decide) dX3_renew_65 (fun hc1 => ?_) (fun hc1 => ?_)
  · replace h := (if_pos hc1).symm.trans h
    obtain rfl := Option.some.inj h
    exact j_vret C rfl (by omega) (by omega) dX3_renew_108
  · replace h := (if_neg hc1).symm.trans h
    refine j_aload_n C 0 rfl rfl dX3_renew_68 ?_
    refine j_getG C in_X3 (by decide) cw_3 rfl 3 (by decide) mw_215 (fun _ h => h) rfl dX3_renew_69 ?_
    refine j_iload_n C 1 rfl rfl dX3_renew_72 ?_
    obtain ⟨q2, hq2, h⟩ := bi_some h
    refine j_callVi (As := [.int v1]) (rest := []) C (cc_X7_isLoose (T := T) (t := 2) (by decide) hq2) (cwV 1 C.ts (good_V mw_563 mw_513 mw_514 mw_69 mw_515) rfl rfl rfl (by decide +kernel) ⟨Nat.le_of_ble_eq_true rfl, Nat.le_of_ble_eq_true rfl⟩) (fun H hW => CW.rv C.k hW (by decide) (cw_9 (by decide)) rfl) rfl rfl (Nat.le_of_ble_eq_true rfl) dX3_renew_73 ⟨(by show _ ≤ 48; omega), (by show _ ≤ 1008; omega)⟩ ?_
    refine j_if_ne (tgt := 102) C (by decide) dX3_renew_76 (fun hc3 => ?_) (fun hc3 => ?_)
    · replace h := (if_neg hc3).symm.trans h
      refine j_iinc (v := v1 + (1 : Int32)) (L' := [(1, .int (v1 + (1 : Int32))), (0, .ref (ad 3 0))]) C 1 rfl rfl (by decide) rfl dX3_renew_102 ?_
      refine j_goto (tgt := 55) C (by decide) dX3_renew_105 ?_
      exact j_sub [1, 0] rfl (ih _ _ ⟨by omega, by omega⟩ χ T (v1 + (1 : Int32)) h)
    · replace h := (if_pos hc3).symm.trans h
      refine j_aload_n C 0 rfl rfl dX3_renew_79 ?_
      refine j_getG C in_X3 (by decide) cw_3 rfl 2 (by decide) mw_214 (fun _ h => h) rfl dX3_renew_80 ?_
      refine j_aload_n C 0 rfl rfl dX3_renew_83 ?_
      refine j_getG C in_X3 (by decide) cw_3 rfl 1 (by decide) mw_213 (fun _ h => h) rfl dX3_renew_84 ?_
      refine j_iload_n C 1 rfl rfl dX3_renew_87 ?_
      obtain ⟨hg4, h⟩ := gd_some h
      refine j_wt (fun wt5 => ?_)
      refine j_lgetK (ek := 19) C (by decide) (by decide) hg4 mw_539 ⟨Nat.le_of_ble_eq_true rfl, Nat.le_of_ble_eq_true rfl⟩ (Nat.le_of_ble_eq_true rfl) dX3_renew_88 ⟨(by show _ ≤ 48; omega), (by show _ ≤ 1008; omega)⟩ ?_
      refine j_castS (q := (RX5, TX5, 6)) C mw_540 (by decide) (cw_19 (χ := χ) (wt_19 wt5 (by decide) (by decide) hg4)) rfl dX3_renew_93 ?_
      obtain ⟨hg6, h⟩ := gd_some h
      refine j_lsaddK (ek := 19) C (by decide) (by decide) hg6 (elP_19 (by decide) (wt_19 wt5 (by decide) (by decide) hg4)) mw_542 ⟨Nat.le_of_ble_eq_true rfl, Nat.le_of_ble_eq_true rfl⟩ (Nat.le_of_ble_eq_true rfl) dX3_renew_96 ⟨(by show _ ≤ 48; omega), (by show _ ≤ 1008; omega)⟩ ?_
      refine j_pop C rfl dX3_renew_101 ?_
      refine j_iinc (v := v1 + (1 : Int32)) (L' := [(1, .int (v1 + (1 : Int32))), (0, .ref (ad 3 0))]) C 1 rfl rfl (by decide) rfl dX3_renew_102 ?_
      refine j_goto (tgt := 55) C (by decide) dX3_renew_105 ?_
      exact j_sub [1, 0] rfl (ih _ _ ⟨by omega, by omega⟩ (lAdd χ 5 (gN χ 4 v1.toNatClampNeg)) T (v1 + (1 : Int32)) h)
set_option maxRecDepth 100000 in
set_option maxHeartbeats 4000000 in
theorem t_X3_renew_0 {σ : Mem} (C : Cx p s m args meth c cX3_renew 2 RX3 none COM g) {rr : (Mem × (Nat → Mem))} (cl sl : Nat) (hcs : cl + (48) ≤ 48 ∧ sl + (1008) ≤ 1008) (χ : Mem) (T : Nat → Mem) (h : f_X3_renew_0 χ T = some rr) : JJ p l e rm_X3_renew s m args below meth c 2 g ad (MQ below (PoV g ad rr.1 rr.2 σ) args s 48 1008 (geB g)) χ T σ cl sl [(0, .ref (ad 3 0))] 0 [] := by
  rw [f_X3_renew_0] at h
  refine j_aload_n C 0 rfl rfl dX3_renew_0 ?_
  obtain ⟨q1, hq1, h⟩ := bi_some h
  refine j_callVv (As := []) (rest := []) C (c_X3_queueRodsIn hq1) (cwV 0 C.ts (good_V mw_530 mw_532 mw_11 mw_70 mw_533) rfl rfl rfl (by decide +kernel) ⟨Nat.le_of_ble_eq_true rfl, Nat.le_of_ble_eq_true rfl⟩) (fun H hW => CW.rv C.k hW (by decide) cw_3 rfl) rfl rfl (Nat.le_of_ble_eq_true rfl) dX3_renew_1 ⟨(by show _ ≤ 48; omega), (by show _ ≤ 1008; omega)⟩ ?_
  refine j_aload_n C 0 rfl rfl dX3_renew_4 ?_
  obtain ⟨q2, hq2, h⟩ := bi_some h
  refine j_callVv (As := []) (rest := []) C (c_X3_queueRodsOut hq2) (cwV 0 C.ts (good_V mw_543 mw_545 mw_12 mw_70 mw_546) rfl rfl rfl (by decide +kernel) ⟨Nat.le_of_ble_eq_true rfl, Nat.le_of_ble_eq_true rfl⟩) (fun H hW => CW.rv C.k hW (by decide) cw_3 rfl) rfl rfl (Nat.le_of_ble_eq_true rfl) dX3_renew_5 ⟨(by show _ ≤ 48; omega), (by show _ ≤ 1008; omega)⟩ ?_
  refine j_aload_n C 0 rfl rfl dX3_renew_8 ?_
  refine j_getG C in_X3 (by decide) cw_3 rfl 3 (by decide) mw_215 (fun _ h => h) rfl dX3_renew_9 ?_
  refine j_aload_n C 0 rfl rfl dX3_renew_12 ?_
  refine j_getG C in_X3 (by decide) cw_3 rfl 1 (by decide) mw_213 (fun _ h => h) rfl dX3_renew_13 ?_
  refine j_aload_n C 0 rfl rfl dX3_renew_16 ?_
  refine j_getG C in_X3 (by decide) cw_3 rfl 0 (by decide) mw_212 (fun _ h => h) rfl dX3_renew_17 ?_
  refine j_getG C in_X2 (by decide) cw_1 rfl 2 (by decide) mw_133 (fun _ h => h) rfl dX3_renew_20 ?_
  obtain ⟨q3, hq3, h⟩ := bi_some h
  refine j_callVv (As := [.ref (ad 16 4), .ref (ad 16 2)]) (rest := []) C (cc_X7_layRodsAsColumns (T := q2.2) (t := 2) (by decide) ⟨by decide, by decide⟩ ⟨by decide, by decide⟩ hq3) (cwV 2 C.ts (good_V mw_561 mw_523 mw_524 mw_69 mw_525) rfl rfl rfl (by decide +kernel) ⟨Nat.le_of_ble_eq_true rfl, Nat.le_of_ble_eq_true rfl⟩) (fun H hW => CW.rv C.k hW (by decide) (cw_9 (by decide)) rfl) rfl rfl (Nat.le_of_ble_eq_true rfl) dX3_renew_23 ⟨(by show _ ≤ 48; omega), (by show _ ≤ 1008; omega)⟩ ?_
  refine j_aload_n C 0 rfl rfl dX3_renew_26 ?_
  refine j_getG C in_X3 (by decide) cw_3 rfl 3 (by decide) mw_215 (fun _ h => h) rfl dX3_renew_27 ?_
  obtain ⟨q4, hq4, h⟩ := bi_some h
  refine j_callVv (As := []) (rest := []) C (cc_X7_reduce (T := (stT q2.2 2 q3)) (t := 2) (by decide) hq4) (cwV 0 C.ts (good_V mw_562 mw_478 mw_479 mw_69 mw_480) rfl rfl rfl (by decide +kernel) ⟨Nat.le_of_ble_eq_true rfl, Nat.le_of_ble_eq_true rfl⟩) (fun H hW => CW.rv C.k hW (by decide) (cw_9 (by decide)) rfl) rfl rfl (Nat.le_of_ble_eq_true rfl) dX3_renew_30 ⟨(by show _ ≤ 48; omega), (by show _ ≤ 1008; omega)⟩ ?_
  refine j_aload_n C 0 rfl rfl dX3_renew_33 ?_
  refine j_getG C in_X3 (by decide) cw_3 rfl 2 (by decide) mw_214 (fun _ h => h) rfl dX3_renew_34 ?_
  refine j_lclear C (by decide) mw_535 ⟨Nat.le_of_ble_eq_true rfl, Nat.le_of_ble_eq_true rfl⟩ (Nat.le_of_ble_eq_true rfl) dX3_renew_37 ⟨(by show _ ≤ 48; omega), (by show _ ≤ 1008; omega)⟩ ?_
  refine j_aload_n C 0 rfl rfl dX3_renew_42 ?_
  refine j_getG C in_X3 (by decide) cw_3 rfl 0 (by decide) mw_212 (fun _ h => h) rfl dX3_renew_43 ?_
  refine j_getG C in_X2 (by decide) cw_1 rfl 3 (by decide) mw_138 (fun _ h => h) rfl dX3_renew_46 ?_
  refine j_lsize C (by decide) mw_537 ⟨Nat.le_of_ble_eq_true rfl, Nat.le_of_ble_eq_true rfl⟩ (Nat.le_of_ble_eq_true rfl) dX3_renew_49 ⟨(by show _ ≤ 48; omega), (by show _ ≤ 1008; omega)⟩ ?_
  refine j_istore_n (L' := [(1, .int (gI (lClr q2.1 5) 14 3)), (0, .ref (ad 3 0))]) C rfl (by decide) rfl dX3_renew_54 ?_
  exact j_sub [1, 0] rfl (t_X3_renew_55 C 16 _ _ ⟨by omega, by omega⟩ (lClr q2.1 5) (stT (stT q2.2 2 q3) 2 q4) (gI (lClr q2.1 5) 14 3) h)
set_option maxRecDepth 100000 in
set_option maxHeartbeats 4000000 in
theorem c_X3_renew {l : Launch} {g : Gc} {ad : Nat → Nat → Nat} {χ : Mem} {T : Nat → Mem} {σ : Mem} {rr : (Mem × (Nat → Mem))} (h : f_X3_renew χ T = some rr) : Met l yX3_renew (WS yX3_renew cX3_renew 2 none) rm_X3_renew (PreW g ad χ T σ [.ref (ad 3 0)]) (PoV g ad rr.1 rr.2 σ) 48 1008 (geB g) := by
  refine j_metW (by decide) (Nat.le_of_ble_eq_true rfl) fun p e s m below meth c C hname => ?_
  rw [f_X3_renew] at h
  exact j_sub [0] rfl (t_X3_renew_0 C 0 0 ⟨Nat.le_of_ble_eq_true rfl, Nat.le_of_ble_eq_true rfl⟩ χ T h)
set_option maxRecDepth 100000 in
set_option maxHeartbeats 4000000 in
theorem t_X10_renew_0 {σ : Mem} (C : Cx p s m args meth c cX10_renew 1 RX10 none COM g) {rr : (Mem × (Nat → Mem))} (cl sl : Nat) (hcs : cl + (80) ≤ 80 ∧ sl + (1680) ≤ 1680) (χ : Mem) (T : Nat → Mem) (h : f_X10_renew_0 χ T = some rr) : JJ p l e rm_X10_renew s m args below meth c 1 g ad (MQ below (PoV g ad rr.1 rr.2 σ) args s 80 1680 (geB g)) χ T σ cl sl [(0, .ref (ad 0 0))] 0 [] := by
  rw [f_X10_renew_0] at h
  refine j_aload_n C 0 rfl rfl dX10_renew_0 ?_
  refine j_getG C in_X10 (by decide) cw_0 rfl 0 (by decide) mw_268 (fun _ h => h) rfl dX10_renew_1 ?_
  obtain ⟨q1, hq1, h⟩ := bi_some h
  refine j_callVv (As := []) (rest := []) C (c_X2_renew hq1) (cwV 0 C.ts (good_V mw_434 mw_435 mw_436 mw_64 mw_437) rfl rfl rfl (by decide +kernel) ⟨Nat.le_of_ble_eq_true rfl, Nat.le_of_ble_eq_true rfl⟩) (fun H hW => CW.rv C.k hW (by decide) cw_1 rfl) rfl rfl (Nat.le_of_ble_eq_true rfl) dX10_renew_4 ⟨(by show _ ≤ 80; omega), (by show _ ≤ 1680; omega)⟩ ?_
  refine j_aload_n C 0 rfl rfl dX10_renew_7 ?_
  refine j_getG C in_X10 (by decide) cw_0 rfl 1 (by decide) mw_269 (fun _ h => h) rfl dX10_renew_8 ?_
  obtain ⟨q2, hq2, h⟩ := bi_some h
  refine j_callVv (As := []) (rest := []) C (c_X0_renew hq2) (cwV 0 C.ts (good_V mw_450 mw_451 mw_452 mw_68 mw_453) rfl rfl rfl (by decide +kernel) ⟨Nat.le_of_ble_eq_true rfl, Nat.le_of_ble_eq_true rfl⟩) (fun H hW => CW.rv C.k hW (by decide) cw_2 rfl) rfl rfl (Nat.le_of_ble_eq_true rfl) dX10_renew_11 ⟨(by show _ ≤ 80; omega), (by show _ ≤ 1680; omega)⟩ ?_
  refine j_aload_n C 0 rfl rfl dX10_renew_14 ?_
  refine j_getG C in_X10 (by decide) cw_0 rfl 2 (by decide) mw_270 (fun _ h => h) rfl dX10_renew_15 ?_
  obtain ⟨q3, hq3, h⟩ := bi_some h
  refine j_callVv (As := []) (rest := []) C (c_X3_renew hq3) (cwV 0 C.ts (good_V mw_526 mw_527 mw_528 mw_70 mw_529) rfl rfl rfl (by decide +kernel) ⟨Nat.le_of_ble_eq_true rfl, Nat.le_of_ble_eq_true rfl⟩) (fun H hW => CW.rv C.k hW (by decide) cw_3 rfl) rfl rfl (Nat.le_of_ble_eq_true rfl) dX10_renew_18 ⟨(by show _ ≤ 80; omega), (by show _ ≤ 1680; omega)⟩ ?_
  refine j_aload_n C 0 rfl rfl dX10_renew_21 ?_
  refine j_getG C in_X10 (by decide) cw_0 rfl 3 (by decide) mw_271 (fun _ h => h) rfl dX10_renew_22 ?_
  obtain ⟨q4, hq4, h⟩ := bi_some h
  refine j_callVv (As := []) (rest := []) C (c_X1_renew hq4) (cwV 0 C.ts (good_V mw_564 mw_565 mw_566 mw_71 mw_567) rfl rfl rfl (by decide +kernel) ⟨Nat.le_of_ble_eq_true rfl, Nat.le_of_ble_eq_true rfl⟩) (fun H hW => CW.rv C.k hW (by decide) cw_4 rfl) rfl rfl (Nat.le_of_ble_eq_true rfl) dX10_renew_25 ⟨(by show _ ≤ 80; omega), (by show _ ≤ 1680; omega)⟩ ?_
  obtain rfl := Option.some.inj h
  exact j_vret C rfl (by omega) (by omega) dX10_renew_28
set_option maxRecDepth 100000 in
set_option maxHeartbeats 4000000 in
theorem c_X10_renew {l : Launch} {g : Gc} {ad : Nat → Nat → Nat} {χ : Mem} {T : Nat → Mem} {σ : Mem} {rr : (Mem × (Nat → Mem))} (h : f_X10_renew χ T = some rr) : Met l yX10_renew (WS yX10_renew cX10_renew 1 none) rm_X10_renew (PreW g ad χ T σ [.ref (ad 0 0)]) (PoV g ad rr.1 rr.2 σ) 80 1680 (geB g) := by
  refine j_metW (by decide) (Nat.le_of_ble_eq_true rfl) fun p e s m below meth c C hname => ?_
  rw [f_X10_renew] at h
  exact j_sub [0] rfl (t_X10_renew_0 C 0 0 ⟨Nat.le_of_ble_eq_true rfl, Nat.le_of_ble_eq_true rfl⟩ χ T h)
set_option maxRecDepth 100000 in
set_option maxHeartbeats 4000000 in
theorem t_X10_hold_0 {σ : Mem} (C : Cx p s m args meth c cX10_hold 4 RX10 (some .int) COM g) {rr : (Mem × (Nat → Mem)) × Int32} (cl sl : Nat) (hcs : cl + (80) ≤ 80 ∧ sl + (1680) ≤ 1680) (χ : Mem) (T : Nat → Mem) (a1 : Int32) (a2 : Int32) (h : f_X10_hold_0 χ T a1 a2 = some rr) : JJ p l e rm_X10_hold s m args below meth c 4 g ad (MQ below (PoI g ad rr.1.1 rr.1.2 σ rr.2) args s 80 1680 (geB g)) χ T σ cl sl [(0, .ref (ad 0 0)), (1, .int a1), (2, .int a2)] 0 [] := by
  rw [f_X10_hold_0] at h
  refine j_aload_n C 0 rfl rfl dX10_hold_0 ?_
  refine j_getG C in_X10 (by decide) cw_0 rfl 0 (by decide) mw_268 (fun _ h => h) rfl dX10_hold_1 ?_
  refine j_iload_n C 1 rfl rfl dX10_hold_4 ?_
  obtain ⟨q1, hq1, h⟩ := bi_some h
  refine j_callVi (As := [.int a1]) (rest := []) C (c_X2_isPin hq1) (cwV 1 C.ts (good_V mw_615 mw_616 mw_617 mw_64 mw_618) rfl rfl rfl (by decide +kernel) ⟨Nat.le_of_ble_eq_true rfl, Nat.le_of_ble_eq_true rfl⟩) (fun H hW => CW.rv C.k hW (by decide) cw_1 rfl) rfl rfl (Nat.le_of_ble_eq_true rfl) dX10_hold_5 ⟨(by show _ ≤ 80; omega), (by show _ ≤ 1680; omega)⟩ ?_
  refine j_if_ne (tgt := 14) C (by decide) dX10_hold_8 (fun hc2 => ?_) (fun hc2 => ?_)
  · replace h := (if_neg hc2).symm.trans h
    refine j_aload_n C 0 rfl rfl dX10_hold_14 ?_
    refine j_getG C in_X10 (by decide) cw_0 rfl 0 (by decide) mw_268 (fun _ h => h) rfl dX10_hold_15 ?_
    refine j_getG C in_X2 (by decide) cw_1 rfl 0 (by decide) mw_125 (fun _ h => h) rfl dX10_hold_18 ?_
    refine j_iload_n C 1 rfl rfl dX10_hold_21 ?_
    obtain ⟨hg3, h⟩ := gd_some h
    refine j_wt (fun wt4 => ?_)
    refine j_lgetK (ek := 18) C (by decide) (by decide) hg3 mw_620 ⟨Nat.le_of_ble_eq_true rfl, Nat.le_of_ble_eq_true rfl⟩ (Nat.le_of_ble_eq_true rfl) dX10_hold_22 ⟨(by show _ ≤ 80; omega), (by show _ ≤ 1680; omega)⟩ ?_
    refine j_castS (q := (RX4, TX4, 6)) C mw_327 (by decide) (cw_18 (χ := χ) (wt_18 wt4 (by decide) (by decide) hg3)) rfl dX10_hold_27 ?_
    refine j_astore_n (L' := [(3, .ref (ad 18 (gN χ 0 a1.toNatClampNeg))), (0, .ref (ad 0 0)), (1, .int a1), (2, .int a2)]) C rfl (by decide) rfl dX10_hold_30 ?_
    refine j_aload_n C 0 rfl rfl dX10_hold_31 ?_
    refine j_getG C in_X4 (by decide) (cw_18 (χ := χ) (wt_18 wt4 (by decide) (by decide) hg3)) rfl 3 (by decide) mw_346 (fun _ h => h) rfl dX10_hold_32 ?_
    refine j_iload_n C 3 rfl rfl dX10_hold_35 ?_
    refine j_icmp_ne (tgt := 41) C (by decide) dX10_hold_36 (fun hc5 => ?_) (fun hc5 => ?_)
    · replace h := (if_neg hc5).symm.trans h
      refine j_aload_n C 0 rfl rfl dX10_hold_41 ?_
      refine j_iload_n C 3 rfl rfl dX10_hold_42 ?_
      obtain ⟨hg6, h⟩ := gd_some h
      refine j_putZ C in_X4 tyX4_ok nmX4 rfl 3 (by decide) hg6 (by decide) (po_Pin_held (χ := χ) (wt_18 wt4 (by decide) (by decide) hg3) a2) mw_346 (fun _ h => h) rfl (tyX4_ok 3 (by decide)) (Nat.le_of_ble_eq_true rfl) dX10_hold_43 ?_
      refine j_aload_n C 0 rfl rfl dX10_hold_46 ?_
      refine j_iconst (v := 0) C (by decide) dX10_hold_47 ?_
      refine j_putI C in_X4 tyX4_ok nmX4 rfl 4 (by decide) (by decide) (po_Pin_forceX (χ := (wI χ 3 (gN χ 0 a1.toNatClampNeg) a2)) (wt_18 wt4 (by decide) (by decide) hg3) (0 : Int32)) mw_348 (fun _ h => h) rfl (tyX4_ok 4 (by decide)) (Nat.le_of_ble_eq_true rfl) dX10_hold_48 ?_
      refine j_aload_n C 0 rfl rfl dX10_hold_51 ?_
      refine j_iconst (v := 0) C (by decide) dX10_hold_52 ?_
      refine j_putI C in_X4 tyX4_ok nmX4 rfl 5 (by decide) (by decide) (po_Pin_forceY (χ := (wI (wI χ 3 (gN χ 0 a1.toNatClampNeg) a2) 4 (gN χ 0 a1.toNatClampNeg) (0 : Int32))) (wt_18 wt4 (by decide) (by decide) hg3) (0 : Int32)) mw_351 (fun _ h => h) rfl (tyX4_ok 5 (by decide)) (Nat.le_of_ble_eq_true rfl) dX10_hold_53 ?_
      refine j_aload_n C 1 rfl rfl dX10_hold_56 ?_
      obtain ⟨q7, hq7, h⟩ := bi_some h
      refine j_callVv (As := []) (rest := []) C (c_X10_renew hq7) (cwV 0 C.ts (good_V mw_430 mw_432 mw_3 mw_63 mw_433) rfl rfl rfl (by decide +kernel) ⟨Nat.le_of_ble_eq_true rfl, Nat.le_of_ble_eq_true rfl⟩) (fun H hW => CW.rv C.k hW (by decide) cw_0 rfl) rfl rfl (Nat.le_of_ble_eq_true rfl) dX10_hold_57 ⟨(by show _ ≤ 80; omega), (by show _ ≤ 1680; omega)⟩ ?_
      refine j_iconst (v := 1) C (by decide) dX10_hold_60 ?_
      obtain rfl := Option.some.inj h
      exact j_iret C rfl rfl (by omega) (by omega) dX10_hold_61
    · replace h := (if_pos hc5).symm.trans h
      refine j_iconst (v := 0) C (by decide) dX10_hold_39 ?_
      obtain rfl := Option.some.inj h
      exact j_iret C rfl rfl (by omega) (by omega) dX10_hold_40
  · replace h := (if_pos hc2).symm.trans h
    refine j_bipush (v := -2) C (by decide) dX10_hold_11 ?_
    obtain rfl := Option.some.inj h
    exact j_iret C rfl rfl (by omega) (by omega) dX10_hold_13
set_option maxRecDepth 100000 in
set_option maxHeartbeats 4000000 in
theorem c_X10_hold {l : Launch} {g : Gc} {ad : Nat → Nat → Nat} {χ : Mem} {T : Nat → Mem} {σ : Mem} {a1 : Int32} {a2 : Int32} {rr : (Mem × (Nat → Mem)) × Int32} (h : f_X10_hold χ T a1 a2 = some rr) : Met l yX10_hold (WS yX10_hold cX10_hold 4 (some .int)) rm_X10_hold (PreW g ad χ T σ [.ref (ad 0 0), .int a1, .int a2]) (PoI g ad rr.1.1 rr.1.2 σ rr.2) 80 1680 (geB g) := by
  refine j_metW (by decide) (Nat.le_of_ble_eq_true rfl) fun p e s m below meth c C hname => ?_
  rw [f_X10_hold] at h
  exact j_sub [0, 1, 2] rfl (t_X10_hold_0 C 0 0 ⟨Nat.le_of_ble_eq_true rfl, Nat.le_of_ble_eq_true rfl⟩ χ T a1 a2 h)
set_option maxRecDepth 100000 in
set_option maxHeartbeats 4000000 in
theorem t_X10_put_0 {σ : Mem} (C : Cx p s m args meth c cX10_put 4 RX10 (some .int) COM g) {rr : (Mem × (Nat → Mem)) × Int32} (cl sl : Nat) (hcs : cl + (80) ≤ 80 ∧ sl + (1680) ≤ 1680) (χ : Mem) (T : Nat → Mem) (a1 : Int32) (a2 : Int32) (h : f_X10_put_0 χ T a1 a2 = some rr) : JJ p l e rm_X10_put s m args below meth c 4 g ad (MQ below (PoI g ad rr.1.1 rr.1.2 σ rr.2) args s 80 1680 (geB g)) χ T σ cl sl [(0, .ref (ad 0 0)), (1, .int a1), (2, .int a2)] 0 [] := by
  rw [f_X10_put_0] at h
  refine j_aload_n C 0 rfl rfl dX10_put_0 ?_
  refine j_getG C in_X10 (by decide) cw_0 rfl 0 (by decide) mw_268 (fun _ h => h) rfl dX10_put_1 ?_
  refine j_iload_n C 1 rfl rfl dX10_put_4 ?_
  obtain ⟨q1, hq1, h⟩ := bi_some h
  refine j_callVi (As := [.int a1]) (rest := []) C (c_X2_isRod hq1) (cwV 1 C.ts (good_V mw_684 mw_685 mw_686 mw_64 mw_687) rfl rfl rfl (by decide +kernel) ⟨Nat.le_of_ble_eq_true rfl, Nat.le_of_ble_eq_true rfl⟩) (fun H hW => CW.rv C.k hW (by decide) cw_1 rfl) rfl rfl (Nat.le_of_ble_eq_true rfl) dX10_put_5 ⟨(by show _ ≤ 80; omega), (by show _ ≤ 1680; omega)⟩ ?_
  refine j_if_ne (tgt := 14) C (by decide) dX10_put_8 (fun hc2 => ?_) (fun hc2 => ?_)
  · replace h := (if_neg hc2).symm.trans h
    refine j_aload_n C 0 rfl rfl dX10_put_14 ?_
    refine j_getG C in_X10 (by decide) cw_0 rfl 0 (by decide) mw_268 (fun _ h => h) rfl dX10_put_15 ?_
    refine j_getG C in_X2 (by decide) cw_1 rfl 1 (by decide) mw_129 (fun _ h => h) rfl dX10_put_18 ?_
    refine j_iload_n C 1 rfl rfl dX10_put_21 ?_
    obtain ⟨hg3, h⟩ := gd_some h
    refine j_wt (fun wt4 => ?_)
    refine j_lgetK (ek := 19) C (by decide) (by decide) hg3 mw_620 ⟨Nat.le_of_ble_eq_true rfl, Nat.le_of_ble_eq_true rfl⟩ (Nat.le_of_ble_eq_true rfl) dX10_put_22 ⟨(by show _ ≤ 80; omega), (by show _ ≤ 1680; omega)⟩ ?_
    refine j_castS (q := (RX5, TX5, 6)) C mw_640 (by decide) (cw_19 (χ := χ) (wt_19 wt4 (by decide) (by decide) hg3)) rfl dX10_put_27 ?_
    refine j_astore_n (L' := [(3, .ref (ad 19 (gN χ 1 a1.toNatClampNeg))), (0, .ref (ad 0 0)), (1, .int a1), (2, .int a2)]) C rfl (by decide) rfl dX10_put_30 ?_
    refine j_aload_n C 0 rfl rfl dX10_put_31 ?_
    refine j_iconst (v := 3) C (by decide) dX10_put_32 ?_
    obtain ⟨q5, hq5, h⟩ := bi_some h
    refine j_callVi (As := [.int (3 : Int32)]) (rest := []) C (c_X5_isOf (wt_19 wt4 (by decide) (by decide) hg3) hq5) (cwV 1 C.ts (good_V mw_688 mw_689 mw_690 mw_82 mw_691) rfl rfl rfl (by decide +kernel) ⟨Nat.le_of_ble_eq_true rfl, Nat.le_of_ble_eq_true rfl⟩) (fun H hW => CW.rv C.k hW (by decide) (cw_19 (χ := χ) (wt_19 wt4 (by decide) (by decide) hg3)) rfl) rfl rfl (Nat.le_of_ble_eq_true rfl) dX10_put_33 ⟨(by show _ ≤ 80; omega), (by show _ ≤ 1680; omega)⟩ ?_
    refine j_if_ne (tgt := 42) C (by decide) dX10_put_36 (fun hc6 => ?_) (fun hc6 => ?_)
    · replace h := (if_neg hc6).symm.trans h
      refine j_aload_n C 0 rfl rfl dX10_put_42 ?_
      refine j_getG C in_X5 (by decide) (cw_19 (χ := χ) (wt_19 wt4 (by decide) (by decide) hg3)) rfl 5 (by decide) mw_663 (fun _ h => h) rfl dX10_put_43 ?_
      refine j_iload_n C 3 rfl rfl dX10_put_46 ?_
      refine j_icmp_ne (tgt := 52) C (by decide) dX10_put_47 (fun hc7 => ?_) (fun hc7 => ?_)
      · replace h := (if_neg hc7).symm.trans h
        refine j_aload_n C 0 rfl rfl dX10_put_52 ?_
        refine j_iload_n C 3 rfl rfl dX10_put_53 ?_
        obtain ⟨hg8, h⟩ := gd_some h
        refine j_putZ C in_X5 tyX5_ok nmX5 rfl 5 (by decide) hg8 (by decide) (po_Rod_in (χ := χ) (wt_19 wt4 (by decide) (by decide) hg3) a2) mw_663 (fun _ h => h) rfl (tyX5_ok 5 (by decide)) (Nat.le_of_ble_eq_true rfl) dX10_put_54 ?_
        refine j_aload_n C 1 rfl rfl dX10_put_57 ?_
        obtain ⟨q9, hq9, h⟩ := bi_some h
        refine j_callVv (As := []) (rest := []) C (c_X10_renew hq9) (cwV 0 C.ts (good_V mw_430 mw_432 mw_3 mw_63 mw_433) rfl rfl rfl (by decide +kernel) ⟨Nat.le_of_ble_eq_true rfl, Nat.le_of_ble_eq_true rfl⟩) (fun H hW => CW.rv C.k hW (by decide) cw_0 rfl) rfl rfl (Nat.le_of_ble_eq_true rfl) dX10_put_58 ⟨(by show _ ≤ 80; omega), (by show _ ≤ 1680; omega)⟩ ?_
        refine j_iconst (v := 1) C (by decide) dX10_put_61 ?_
        obtain rfl := Option.some.inj h
        exact j_iret C rfl rfl (by omega) (by omega) dX10_put_62
      · replace h := (if_pos hc7).symm.trans h
        refine j_iconst (v := 0) C (by decide) dX10_put_50 ?_
        obtain rfl := Option.some.inj h
        exact j_iret C rfl rfl (by omega) (by omega) dX10_put_51
    · replace h := (if_pos hc6).symm.trans h
      refine j_bipush (v := -2) C (by decide) dX10_put_39 ?_
      obtain rfl := Option.some.inj h
      exact j_iret C rfl rfl (by omega) (by omega) dX10_put_41
  · replace h := (if_pos hc2).symm.trans h
    refine j_bipush (v := -2) C (by decide) dX10_put_11 ?_
    obtain rfl := Option.some.inj h
    exact j_iret C rfl rfl (by omega) (by omega) dX10_put_13
set_option maxRecDepth 100000 in
set_option maxHeartbeats 4000000 in
theorem c_X10_put {l : Launch} {g : Gc} {ad : Nat → Nat → Nat} {χ : Mem} {T : Nat → Mem} {σ : Mem} {a1 : Int32} {a2 : Int32} {rr : (Mem × (Nat → Mem)) × Int32} (h : f_X10_put χ T a1 a2 = some rr) : Met l yX10_put (WS yX10_put cX10_put 4 (some .int)) rm_X10_put (PreW g ad χ T σ [.ref (ad 0 0), .int a1, .int a2]) (PoI g ad rr.1.1 rr.1.2 σ rr.2) 80 1680 (geB g) := by
  refine j_metW (by decide) (Nat.le_of_ble_eq_true rfl) fun p e s m below meth c C hname => ?_
  rw [f_X10_put] at h
  exact j_sub [0, 1, 2] rfl (t_X10_put_0 C 0 0 ⟨Nat.le_of_ble_eq_true rfl, Nat.le_of_ble_eq_true rfl⟩ χ T a1 a2 h)
set_option maxRecDepth 100000 in
set_option maxHeartbeats 4000000 in
theorem t_X10_load_0 {σ : Mem} (C : Cx p s m args meth c cX10_load 5 RX10 (some .int) COM g) {rr : (Mem × (Nat → Mem)) × Int32} (cl sl : Nat) (hcs : cl + (80) ≤ 80 ∧ sl + (1680) ≤ 1680) (χ : Mem) (T : Nat → Mem) (a1 : Int32) (a2 : Int32) (a3 : Int32) (h : f_X10_load_0 χ T a1 a2 a3 = some rr) : JJ p l e rm_X10_load s m args below meth c 5 g ad (MQ below (PoI g ad rr.1.1 rr.1.2 σ rr.2) args s 80 1680 (geB g)) χ T σ cl sl [(0, .ref (ad 0 0)), (1, .int a1), (2, .int a2), (3, .int a3)] 0 [] := by
  rw [f_X10_load_0] at h
  refine j_aload_n C 0 rfl rfl dX10_load_0 ?_
  refine j_getG C in_X10 (by decide) cw_0 rfl 0 (by decide) mw_268 (fun _ h => h) rfl dX10_load_1 ?_
  refine j_iload_n C 1 rfl rfl dX10_load_4 ?_
  obtain ⟨q1, hq1, h⟩ := bi_some h
  refine j_callVi (As := [.int a1]) (rest := []) C (c_X2_isPin hq1) (cwV 1 C.ts (good_V mw_615 mw_616 mw_617 mw_64 mw_618) rfl rfl rfl (by decide +kernel) ⟨Nat.le_of_ble_eq_true rfl, Nat.le_of_ble_eq_true rfl⟩) (fun H hW => CW.rv C.k hW (by decide) cw_1 rfl) rfl rfl (Nat.le_of_ble_eq_true rfl) dX10_load_5 ⟨(by show _ ≤ 80; omega), (by show _ ≤ 1680; omega)⟩ ?_
  refine j_if_eq (tgt := 25) C (by decide) dX10_load_8 (fun hc2 => ?_) (fun hc2 => ?_)
  · replace h := (if_pos hc2).symm.trans h
    refine j_bipush (v := -2) C (by decide) dX10_load_25 ?_
    obtain rfl := Option.some.inj h
    exact j_iret C rfl rfl (by omega) (by omega) dX10_load_27
  · replace h := (if_neg hc2).symm.trans h
    refine j_iload_n C 2 rfl rfl dX10_load_11 ?_
    obtain ⟨q3, hq3, h⟩ := bi_some h
    refine j_callSi (As := [.int a2]) (rest := []) C (c_X10_isForce hq3) (va_cwS 1 C.ts (good_S mw_801 mw_802 mw_63 mw_803) rfl rfl rfl (by decide +kernel) ⟨Nat.le_of_ble_eq_true rfl, Nat.le_of_ble_eq_true rfl⟩) rfl rfl (Nat.le_of_ble_eq_true rfl) dX10_load_12 ⟨(by show _ ≤ 80; omega), (by show _ ≤ 1680; omega)⟩ ?_
    refine j_if_eq (tgt := 25) C (by decide) dX10_load_15 (fun hc4 => ?_) (fun hc4 => ?_)
    · replace h := (if_pos hc4).symm.trans h
      refine j_bipush (v := -2) C (by decide) dX10_load_25 ?_
      obtain rfl := Option.some.inj h
      exact j_iret C rfl rfl (by omega) (by omega) dX10_load_27
    · replace h := (if_neg hc4).symm.trans h
      refine j_iload_n C 3 rfl rfl dX10_load_18 ?_
      obtain ⟨q5, hq5, h⟩ := bi_some h
      refine j_callSi (As := [.int a3]) (rest := []) C (c_X10_isForce hq5) (va_cwS 1 C.ts (good_S mw_801 mw_802 mw_63 mw_803) rfl rfl rfl (by decide +kernel) ⟨Nat.le_of_ble_eq_true rfl, Nat.le_of_ble_eq_true rfl⟩) rfl rfl (Nat.le_of_ble_eq_true rfl) dX10_load_19 ⟨(by show _ ≤ 80; omega), (by show _ ≤ 1680; omega)⟩ ?_
      refine j_if_ne (tgt := 28) C (by decide) dX10_load_22 (fun hc6 => ?_) (fun hc6 => ?_)
      · replace h := (if_neg hc6).symm.trans h
        refine j_aload_n C 0 rfl rfl dX10_load_28 ?_
        refine j_getG C in_X10 (by decide) cw_0 rfl 0 (by decide) mw_268 (fun _ h => h) rfl dX10_load_29 ?_
        refine j_getG C in_X2 (by decide) cw_1 rfl 0 (by decide) mw_125 (fun _ h => h) rfl dX10_load_32 ?_
        refine j_iload_n C 1 rfl rfl dX10_load_35 ?_
        obtain ⟨hg7, h⟩ := gd_some h
        refine j_wt (fun wt8 => ?_)
        refine j_lgetK (ek := 18) C (by decide) (by decide) hg7 mw_620 ⟨Nat.le_of_ble_eq_true rfl, Nat.le_of_ble_eq_true rfl⟩ (Nat.le_of_ble_eq_true rfl) dX10_load_36 ⟨(by show _ ≤ 80; omega), (by show _ ≤ 1680; omega)⟩ ?_
        refine j_castS (q := (RX4, TX4, 6)) C mw_327 (by decide) (cw_18 (χ := χ) (wt_18 wt8 (by decide) (by decide) hg7)) rfl dX10_load_41 ?_
        refine j_astore (L' := [(4, .ref (ad 18 (gN χ 0 a1.toNatClampNeg))), (0, .ref (ad 0 0)), (1, .int a1), (2, .int a2), (3, .int a3)]) C (by decide) rfl dX10_load_44 ?_
        refine j_aload C 0 rfl dX10_load_46 ?_
        refine j_getG C in_X4 (by decide) (cw_18 (χ := χ) (wt_18 wt8 (by decide) (by decide) hg7)) rfl 3 (by decide) mw_346 (fun _ h => h) rfl dX10_load_48 ?_
        refine j_if_eq (tgt := 57) C (by decide) dX10_load_51 (fun hc9 => ?_) (fun hc9 => ?_)
        · replace h := (if_pos hc9).symm.trans h
          refine j_aload C 0 rfl dX10_load_57 ?_
          refine j_iload_n C 3 rfl rfl dX10_load_59 ?_
          refine j_putI C in_X4 tyX4_ok nmX4 rfl 4 (by decide) (by decide) (po_Pin_forceX (χ := χ) (wt_18 wt8 (by decide) (by decide) hg7) a2) mw_348 (fun _ h => h) rfl (tyX4_ok 4 (by decide)) (Nat.le_of_ble_eq_true rfl) dX10_load_60 ?_
          refine j_aload C 0 rfl dX10_load_63 ?_
          refine j_iload_n C 4 rfl rfl dX10_load_65 ?_
          refine j_putI C in_X4 tyX4_ok nmX4 rfl 5 (by decide) (by decide) (po_Pin_forceY (χ := (wI χ 4 (gN χ 0 a1.toNatClampNeg) a2)) (wt_18 wt8 (by decide) (by decide) hg7) a3) mw_351 (fun _ h => h) rfl (tyX4_ok 5 (by decide)) (Nat.le_of_ble_eq_true rfl) dX10_load_66 ?_
          refine j_aload_n C 1 rfl rfl dX10_load_69 ?_
          obtain ⟨q10, hq10, h⟩ := bi_some h
          refine j_callVv (As := []) (rest := []) C (c_X10_renew hq10) (cwV 0 C.ts (good_V mw_430 mw_432 mw_3 mw_63 mw_433) rfl rfl rfl (by decide +kernel) ⟨Nat.le_of_ble_eq_true rfl, Nat.le_of_ble_eq_true rfl⟩) (fun H hW => CW.rv C.k hW (by decide) cw_0 rfl) rfl rfl (Nat.le_of_ble_eq_true rfl) dX10_load_70 ⟨(by show _ ≤ 80; omega), (by show _ ≤ 1680; omega)⟩ ?_
          refine j_iconst (v := 1) C (by decide) dX10_load_73 ?_
          obtain rfl := Option.some.inj h
          exact j_iret C rfl rfl (by omega) (by omega) dX10_load_74
        · replace h := (if_neg hc9).symm.trans h
          refine j_bipush (v := -3) C (by decide) dX10_load_54 ?_
          obtain rfl := Option.some.inj h
          exact j_iret C rfl rfl (by omega) (by omega) dX10_load_56
      · replace h := (if_pos hc6).symm.trans h
        refine j_bipush (v := -2) C (by decide) dX10_load_25 ?_
        obtain rfl := Option.some.inj h
        exact j_iret C rfl rfl (by omega) (by omega) dX10_load_27
set_option maxRecDepth 100000 in
set_option maxHeartbeats 4000000 in
theorem c_X10_load {l : Launch} {g : Gc} {ad : Nat → Nat → Nat} {χ : Mem} {T : Nat → Mem} {σ : Mem} {a1 : Int32} {a2 : Int32} {a3 : Int32} {rr : (Mem × (Nat → Mem)) × Int32} (h : f_X10_load χ T a1 a2 a3 = some rr) : Met l yX10_load (WS yX10_load cX10_load 5 (some .int)) rm_X10_load (PreW g ad χ T σ [.ref (ad 0 0), .int a1, .int a2, .int a3]) (PoI g ad rr.1.1 rr.1.2 σ rr.2) 80 1680 (geB g) := by
  refine j_metW (by decide) (Nat.le_of_ble_eq_true rfl) fun p e s m below meth c C hname => ?_
  rw [f_X10_load] at h
  exact j_sub [0, 1, 2, 3] rfl (t_X10_load_0 C 0 0 ⟨Nat.le_of_ble_eq_true rfl, Nat.le_of_ble_eq_true rfl⟩ χ T a1 a2 a3 h)
end
