theorem fs_Jx4a65c : ∀ j, j < 3 → defaultValue (tyJx4a65c j) = vp_V [.int 0, .null, .int 0] j := fun j hj => by
  match j, hj with
  | 0, _ => rfl
  | 1, _ => rfl
  | 2, _ => rfl
theorem fs_X2 : ∀ j, j < 4 → defaultValue (tyX2 j) = vp_V [.null, .null, .null, .null] j := fun j hj => by
  match j, hj with
  | 0, _ => rfl
  | 1, _ => rfl
  | 2, _ => rfl
  | 3, _ => rfl
theorem fs_X0 : ∀ j, j < 3 → defaultValue (tyX0 j) = vp_V [.null, .null, .null] j := fun j hj => by
  match j, hj with
  | 0, _ => rfl
  | 1, _ => rfl
  | 2, _ => rfl
theorem fs_X3 : ∀ j, j < 4 → defaultValue (tyX3 j) = vp_V [.null, .null, .null, .null] j := fun j hj => by
  match j, hj with
  | 0, _ => rfl
  | 1, _ => rfl
  | 2, _ => rfl
  | 3, _ => rfl
theorem fs_X1 : ∀ j, j < 5 → defaultValue (tyX1 j) = vp_V [.null, .null, .null, .int 0, .int 0] j := fun j hj => by
  match j, hj with
  | 0, _ => rfl
  | 1, _ => rfl
  | 2, _ => rfl
  | 3, _ => rfl
  | 4, _ => rfl
theorem fs_X9 : ∀ j, j < 4 → defaultValue (tyX9 j) = vp_V [.null, .null, .null, .int 0] j := fun j hj => by
  match j, hj with
  | 0, _ => rfl
  | 1, _ => rfl
  | 2, _ => rfl
  | 3, _ => rfl
theorem fs_X7 : ∀ j, j < 8 → defaultValue (tyX7 j) = vp_V [.null, .null, .null, .null, .null, .int 0, .int 0, .int 0] j := fun j hj => by
  match j, hj with
  | 0, _ => rfl
  | 1, _ => rfl
  | 2, _ => rfl
  | 3, _ => rfl
  | 4, _ => rfl
  | 5, _ => rfl
  | 6, _ => rfl
  | 7, _ => rfl
theorem fs_X10 : ∀ j, j < 5 → defaultValue (tyX10 j) = vp_V [.null, .null, .null, .null, .null] j := fun j hj => by
  match j, hj with
  | 0, _ => rfl
  | 1, _ => rfl
  | 2, _ => rfl
  | 3, _ => rfl
  | 4, _ => rfl
theorem fs_X11 : ∀ j, j < 32 → defaultValue (tyX11 j) = vp_V [.int 0, .int 0, .null, .null, .null, .null, .null, .null, .null, .null, .null, .null, .null, .int 0, .int 0, .null, .null, .null, .int 0, .null, .null, .null, .null, .int 0, .null, .null, .null, .null, .null, .null, .int 0, .null] j := fun j hj => by
  match j, hj with
  | 0, _ => rfl
  | 1, _ => rfl
  | 2, _ => rfl
  | 3, _ => rfl
  | 4, _ => rfl
  | 5, _ => rfl
  | 6, _ => rfl
  | 7, _ => rfl
  | 8, _ => rfl
  | 9, _ => rfl
  | 10, _ => rfl
  | 11, _ => rfl
  | 12, _ => rfl
  | 13, _ => rfl
  | 14, _ => rfl
  | 15, _ => rfl
  | 16, _ => rfl
  | 17, _ => rfl
  | 18, _ => rfl
  | 19, _ => rfl
  | 20, _ => rfl
  | 21, _ => rfl
  | 22, _ => rfl
  | 23, _ => rfl
  | 24, _ => rfl
  | 25, _ => rfl
  | 26, _ => rfl
  | 27, _ => rfl
  | 28, _ => rfl
  | 29, _ => rfl
  | 30, _ => rfl
  | 31, _ => rfl
  | j + 32, h => exact absurd h (by omega)
def lstE (g : Gc) : va_E := .inr (0, [.int 0, .ref g.2.2.1, .int 0])
def tabE (z : Nat → Nat) : va_E := .inr (8, [.ref (z 0), .ref (z 1), .ref (z 2), .ref (z 3), .ref (z 4), .int 0, .int 0, .int 0])
def tabR (g : Gc) (z : Nat → Nat) : va_W := rowW g (z 0) ++ [(z 1, aZ g 15 (fun _ => 0)), (z 2, aI g 15 (fun _ => 0)), (z 3, aI g 15 (fun _ => 0)), (z 4, aL g 15 (fun _ => 0))]
def frmE (z : Nat → Nat) : va_E := .inr (3, [.ref (z 0), .ref (z 1), .ref (z 2), .ref (z 3)])
def frmR (g : Gc) (z : Nat → Nat) : va_W := [(z 0, lstE g), (z 1, lstE g), (z 2, lstE g), (z 3, lstE g)]
def balE (f : Nat) (z : Nat → Nat) : va_E := .inr (1, [.ref f, .ref (z 0), .ref (z 1)])
def balR (g : Gc) (z z0 z1 : Nat → Nat) : va_W := (z 0, tabE z0) :: (tabR g z0 ++ ((z 1, tabE z1) :: tabR g z1))
def offE (f : Nat) (z : Nat → Nat) : va_E := .inr (4, [.ref f, .ref (z 0), .ref (z 1), .ref (z 2)])
def offR (g : Gc) (z z0 : Nat → Nat) : va_W := (z 0, lstE g) :: (z 1, lstE g) :: (z 2, tabE z0) :: tabR g z0
def bodE (f : Nat) (z : Nat → Nat) : va_E := .inr (2, [.ref f, .ref (z 0), .ref (z 1), .int 0, .int 0])
def bodR (g : Gc) (z : Nat → Nat) : va_W := [(z 0, aI g 64 (fun _ => 0)), (z 1, aI g 64 (fun _ => 0))]
def trsE (f b : Nat) (z : Nat → Nat) : va_E := .inr (9, [.ref f, .ref b, .ref (z 0), .int 0])
def trsR (g : Gc) (z : Nat → Nat) : va_W := [(z 0, aR g 3 6 (fun _ => none))]
def benE (z : Nat → Nat) : va_E := .inr (10, [.ref (z 0), .ref (z 1), .ref (z 2), .ref (z 3), .ref (z 4)])
def benR (g : Gc) (z zf zb z0 z1 zo z2 zd zt : Nat → Nat) : va_W := (z 0, frmE zf) :: (frmR g zf ++ ((z 1, balE (z 0) zb) :: (balR g zb z0 z1 ++ ((z 2, offE (z 0) zo) :: (offR g zo z2 ++ ((z 3, bodE (z 0) zd) :: (bodR g zd ++ ((z 4, trsE (z 0) (z 1) zt) :: trsR g zt))))))))
def modE (z : Nat → Nat) : va_E := .inr (11, [.int 0, .int 0, .ref (z 2), .ref (z 3), .ref (z 4), .ref (z 5), .ref (z 6), .ref (z 7), .ref (z 8), .ref (z 9), .ref (z 10), .ref (z 11), .ref (z 12), .int 0, .int 0, .ref (z 15), .ref (z 16), .ref (z 17), .int 0, .ref (z 19), .ref (z 20), .ref (z 21), .ref (z 22), .int 0, .ref (z 24), .ref (z 25), .ref (z 26), .ref (z 27), .ref (z 28), .ref (z 29), .int 0, .ref (z 31)])
def modR (g : Gc) (z : Nat → Nat) : va_W := [(z 2, aI g 6 (fun _ => 0)), (z 3, aI g 6 (fun _ => 0)), (z 4, aI g 6 (fun _ => 0)), (z 5, aI g 6 (fun _ => 0)), (z 6, aZ g 6 (fun _ => 0)), (z 7, aI g 15 (fun _ => 0)), (z 8, aI g 15 (fun _ => 0)), (z 9, aI g 15 (fun _ => 0)), (z 10, aI g 15 (fun _ => 0)), (z 11, aZ g 15 (fun _ => 0)), (z 12, aL g 256 (fun _ => 0)), (z 15, aI g 16 (fun _ => 0)), (z 16, aL g 16 (fun _ => 0)), (z 17, aI g 15 (fun _ => 0)), (z 19, aI g 64 (fun _ => 0)), (z 20, aZ g 15 (fun _ => 0)), (z 21, aZ g 15 (fun _ => 0)), (z 22, aZ g 15 (fun _ => 0)), (z 24, aI g 15 (fun _ => 0)), (z 25, aI g 6 (fun _ => 0)), (z 26, aI g 6 (fun _ => 0)), (z 27, aI g 6 (fun _ => 0)), (z 28, aI g 6 (fun _ => 0)), (z 29, aL g 96 (fun _ => 0)), (z 31, aI g 65 (fun _ => 0))]
abbrev rm_X7_init : Room := { frames := 1, cells := 20, slots := 315, locals := 20 }
set_option maxRecDepth 100000 in
set_option maxHeartbeats 4000000 in
theorem c_X7_init {l : Launch} {g : Gc} {lo : Nat}  (sz : Nat) : Met l yX7_init (WS yX7_init cX7_init 1 none) rm_X7_init (PreK g [(lo, .inr (8, [.null, .null, .null, .null, .null, .int 0, .int 0, .int 0]))] sz [.ref lo]) (PoLv g (fun ws2 => ∃ e1 r, ws2 = (lo, e1) :: r ∧ ∃ z : Nat → Nat, e1 = tabE z ∧ r = tabR g z) (va_A [(lo, .inr (8, [.null, .null, .null, .null, .null, .int 0, .int 0, .int 0]))] sz)) 20 315 (va_A [(lo, .inr (8, [.null, .null, .null, .null, .null, .int 0, .int 0, .int 0]))] sz) := by
  refine k_metK (by decide) (Nat.le_of_ble_eq_true rfl) fun p e s m9 below meth c C hao hnm9 hAB hAf => ?_
  refine j_sub [0] rfl ?_
  refine j_aload_n C 0 rfl rfl dX7_init_0 ?_
  refine j_objInit C mw_161 mw_90 mw_91 (Nat.le_of_ble_eq_true rfl) (Nat.le_of_ble_eq_true rfl) dX7_init_1 ?_
  refine j_aload_n C 0 rfl rfl dX7_init_4 ?_
  refine j_bipush (v := 15) C (by decide) dX7_init_5 ?_
  refine j_bipush (v := 16) C (by decide) dX7_init_7 ?_
  refine k_mna C hAf hao mw_162 mw_189 (Nat.le_of_ble_eq_true rfl) (Nat.le_of_ble_eq_true rfl) dX7_init_9 (fun q0 => ?_)
  refine k_ws (ws' := (lo, .inr (8, [.null, .null, .null, .null, .null, .int 0, .int 0, .int 0])) :: rowW g q0) rfl ?_
  refine k_putF C hnm9 in_X7 tyX7_ok nmX7 (q0 := 0) rfl (show vwCl[8]? = some (RX7, TX7, 8) from rfl) 0 (by decide) mw_164 (fun _ h => h) rfl rfl (ty := .array (.array .long)) (tyX7_ok 0 (by decide)) rfl rfl (Nat.le_of_ble_eq_true rfl) dX7_init_13 ?_
  refine k_ws (ws' := (lo, .inr (8, [.ref q0, .null, .null, .null, .null, .int 0, .int 0, .int 0])) :: rowW g q0) rfl ?_
  refine j_aload_n C 0 rfl rfl dX7_init_16 ?_
  refine j_bipush (v := 15) C (by decide) dX7_init_17 ?_
  refine k_newZ C hAf mw_190 (n := 15) (N' := 15) (by decide) (by decide) (Nat.le_of_ble_eq_true rfl) (Nat.le_of_ble_eq_true rfl) (Nat.le_of_ble_eq_true rfl) dX7_init_19 (fun q1 => ?_)
  refine k_ws (ws' := (lo, .inr (8, [.ref q0, .null, .null, .null, .null, .int 0, .int 0, .int 0])) :: (rowW g q0 ++ ([(q1, aZ g 15 (fun _ => 0))]))) rfl ?_
  refine k_putF C hnm9 in_X7 tyX7_ok nmX7 (q0 := 0) rfl (show vwCl[8]? = some (RX7, TX7, 8) from rfl) 1 (by decide) mw_165 (fun _ h => h) rfl rfl (ty := .array .boolean) (tyX7_ok 1 (by decide)) rfl rfl (Nat.le_of_ble_eq_true rfl) dX7_init_21 ?_
  refine k_ws (ws' := (lo, .inr (8, [.ref q0, .ref q1, .null, .null, .null, .int 0, .int 0, .int 0])) :: (rowW g q0 ++ ([(q1, aZ g 15 (fun _ => 0))]))) rfl ?_
  refine j_aload_n C 0 rfl rfl dX7_init_24 ?_
  refine j_bipush (v := 15) C (by decide) dX7_init_25 ?_
  refine k_newI C hAf mw_191 (n := 15) (N' := 15) (by decide) (by decide) (Nat.le_of_ble_eq_true rfl) (Nat.le_of_ble_eq_true rfl) (Nat.le_of_ble_eq_true rfl) dX7_init_27 (fun q2 => ?_)
  refine k_ws (ws' := (lo, .inr (8, [.ref q0, .ref q1, .null, .null, .null, .int 0, .int 0, .int 0])) :: (rowW g q0 ++ ((q1, aZ g 15 (fun _ => 0)) :: [(q2, aI g 15 (fun _ => 0))]))) rfl ?_
  refine k_putF C hnm9 in_X7 tyX7_ok nmX7 (q0 := 0) rfl (show vwCl[8]? = some (RX7, TX7, 8) from rfl) 2 (by decide) mw_166 (fun _ h => h) rfl rfl (ty := .array .int) (tyX7_ok 2 (by decide)) rfl rfl (Nat.le_of_ble_eq_true rfl) dX7_init_29 ?_
  refine k_ws (ws' := (lo, .inr (8, [.ref q0, .ref q1, .ref q2, .null, .null, .int 0, .int 0, .int 0])) :: (rowW g q0 ++ ((q1, aZ g 15 (fun _ => 0)) :: [(q2, aI g 15 (fun _ => 0))]))) rfl ?_
  refine j_aload_n C 0 rfl rfl dX7_init_32 ?_
  refine j_bipush (v := 15) C (by decide) dX7_init_33 ?_
  refine k_newI C hAf mw_191 (n := 15) (N' := 15) (by decide) (by decide) (Nat.le_of_ble_eq_true rfl) (Nat.le_of_ble_eq_true rfl) (Nat.le_of_ble_eq_true rfl) dX7_init_35 (fun q3 => ?_)
  refine k_ws (ws' := (lo, .inr (8, [.ref q0, .ref q1, .ref q2, .null, .null, .int 0, .int 0, .int 0])) :: (rowW g q0 ++ ((q1, aZ g 15 (fun _ => 0)) :: (q2, aI g 15 (fun _ => 0)) :: [(q3, aI g 15 (fun _ => 0))]))) rfl ?_
  refine k_putF C hnm9 in_X7 tyX7_ok nmX7 (q0 := 0) rfl (show vwCl[8]? = some (RX7, TX7, 8) from rfl) 3 (by decide) mw_167 (fun _ h => h) rfl rfl (ty := .array .int) (tyX7_ok 3 (by decide)) rfl rfl (Nat.le_of_ble_eq_true rfl) dX7_init_37 ?_
  refine k_ws (ws' := (lo, .inr (8, [.ref q0, .ref q1, .ref q2, .ref q3, .null, .int 0, .int 0, .int 0])) :: (rowW g q0 ++ ((q1, aZ g 15 (fun _ => 0)) :: (q2, aI g 15 (fun _ => 0)) :: [(q3, aI g 15 (fun _ => 0))]))) rfl ?_
  refine j_aload_n C 0 rfl rfl dX7_init_40 ?_
  refine j_bipush (v := 15) C (by decide) dX7_init_41 ?_
  refine k_newL C hAf mw_189 (n := 15) (N' := 15) (by decide) (by decide) (Nat.le_of_ble_eq_true rfl) (Nat.le_of_ble_eq_true rfl) (Nat.le_of_ble_eq_true rfl) dX7_init_43 (fun q4 => ?_)
  refine k_ws (ws' := (lo, .inr (8, [.ref q0, .ref q1, .ref q2, .ref q3, .null, .int 0, .int 0, .int 0])) :: (rowW g q0 ++ ((q1, aZ g 15 (fun _ => 0)) :: (q2, aI g 15 (fun _ => 0)) :: (q3, aI g 15 (fun _ => 0)) :: [(q4, aL g 15 (fun _ => 0))]))) rfl ?_
  refine k_putF C hnm9 in_X7 tyX7_ok nmX7 (q0 := 0) rfl (show vwCl[8]? = some (RX7, TX7, 8) from rfl) 4 (by decide) mw_168 (fun _ h => h) rfl rfl (ty := .array .long) (tyX7_ok 4 (by decide)) rfl rfl (Nat.le_of_ble_eq_true rfl) dX7_init_45 ?_
  refine k_ws (ws' := (lo, .inr (8, [.ref q0, .ref q1, .ref q2, .ref q3, .ref q4, .int 0, .int 0, .int 0])) :: (rowW g q0 ++ ((q1, aZ g 15 (fun _ => 0)) :: (q2, aI g 15 (fun _ => 0)) :: (q3, aI g 15 (fun _ => 0)) :: [(q4, aL g 15 (fun _ => 0))]))) rfl ?_
  refine j_aload_n C 0 rfl rfl dX7_init_48 ?_
  refine j_iconst (v := 0) C (by decide) dX7_init_49 ?_
  refine k_put C in_X7 tyX7_ok nmX7 (q0 := 0) rfl (show vwCl[8]? = some (RX7, TX7, 8) from rfl) 5 (by decide) mw_169 (fun _ h => h) rfl (ty := .int) (tyX7_ok 5 (by decide)) rfl rfl (Nat.le_of_ble_eq_true rfl) dX7_init_50 ?_
  refine k_ws (ws' := (lo, .inr (8, [.ref q0, .ref q1, .ref q2, .ref q3, .ref q4, .int 0, .int 0, .int 0])) :: (rowW g q0 ++ ((q1, aZ g 15 (fun _ => 0)) :: (q2, aI g 15 (fun _ => 0)) :: (q3, aI g 15 (fun _ => 0)) :: [(q4, aL g 15 (fun _ => 0))]))) rfl ?_
  refine j_aload_n C 0 rfl rfl dX7_init_53 ?_
  refine j_iconst (v := 0) C (by decide) dX7_init_54 ?_
  refine k_put C in_X7 tyX7_ok nmX7 (q0 := 0) rfl (show vwCl[8]? = some (RX7, TX7, 8) from rfl) 6 (by decide) mw_170 (fun _ h => h) rfl (ty := .int) (tyX7_ok 6 (by decide)) rfl rfl (Nat.le_of_ble_eq_true rfl) dX7_init_55 ?_
  refine k_ws (ws' := (lo, .inr (8, [.ref q0, .ref q1, .ref q2, .ref q3, .ref q4, .int 0, .int 0, .int 0])) :: (rowW g q0 ++ ((q1, aZ g 15 (fun _ => 0)) :: (q2, aI g 15 (fun _ => 0)) :: (q3, aI g 15 (fun _ => 0)) :: [(q4, aL g 15 (fun _ => 0))]))) rfl ?_
  refine j_aload_n C 0 rfl rfl dX7_init_58 ?_
  refine j_iconst (v := 0) C (by decide) dX7_init_59 ?_
  refine k_put C in_X7 tyX7_ok nmX7 (q0 := 0) rfl (show vwCl[8]? = some (RX7, TX7, 8) from rfl) 7 (by decide) mw_171 (fun _ h => h) rfl (ty := .int) (tyX7_ok 7 (by decide)) rfl rfl (Nat.le_of_ble_eq_true rfl) dX7_init_60 ?_
  refine k_ws (ws' := (lo, .inr (8, [.ref q0, .ref q1, .ref q2, .ref q3, .ref q4, .int 0, .int 0, .int 0])) :: (rowW g q0 ++ ((q1, aZ g 15 (fun _ => 0)) :: (q2, aI g 15 (fun _ => 0)) :: (q3, aI g 15 (fun _ => 0)) :: [(q4, aL g 15 (fun _ => 0))]))) rfl ?_
  exact k_vret C rfl ⟨_, _, rfl, (fun i => match i with | 0 => q0 | 1 => q1 | 2 => q2 | 3 => q3 | 4 => q4 | _ => 0), rfl, rfl⟩ (Nat.le_of_ble_eq_true rfl) (Nat.le_of_ble_eq_true rfl) dX7_init_63
abbrev rm_X2_init : Room := { frames := 5, cells := 4, slots := 12, locals := 100 }
set_option maxRecDepth 100000 in
set_option maxHeartbeats 4000000 in
theorem c_X2_init {l : Launch} {g : Gc} {lo : Nat}  (sz : Nat) : Met l yX2_init (WS yX2_init cX2_init 1 none) rm_X2_init (PreK g [(lo, .inr (3, [.null, .null, .null, .null]))] sz [.ref lo]) (PoLv g (fun ws2 => ∃ e1 r, ws2 = (lo, e1) :: r ∧ ∃ z : Nat → Nat, e1 = frmE z ∧ r = frmR g z) (va_A [(lo, .inr (3, [.null, .null, .null, .null]))] sz)) 4 12 (va_A [(lo, .inr (3, [.null, .null, .null, .null]))] sz) := by
  refine k_metK (by decide) (Nat.le_of_ble_eq_true rfl) fun p e s m9 below meth c C hao hnm9 hAB hAf => ?_
  refine j_sub [0] rfl ?_
  refine j_aload_n C 0 rfl rfl dX2_init_0 ?_
  refine j_objInit C mw_97 mw_90 mw_91 (Nat.le_of_ble_eq_true rfl) (Nat.le_of_ble_eq_true rfl) dX2_init_1 ?_
  refine j_aload_n C 0 rfl rfl dX2_init_4 ?_
  refine k_newO C hAf in_Jx4a65c tyJx4a65c_ok mw_98 mw_99 mw_67 (show vwCl[0]? = some (RJx4a65c, TJx4a65c, 3) from rfl) fs_Jx4a65c (Nat.le_of_ble_eq_true rfl) (Nat.le_of_ble_eq_true rfl) dX2_init_5 (fun q0 => ?_)
  refine k_ws (ws' := (lo, .inr (3, [.null, .null, .null, .null])) :: [(q0, .inr (0, [.int 0, .null, .int 0]))]) rfl ?_
  refine j_dup C rfl dX2_init_8 ?_
  refine k_callL C hao hAB hAf (q0 := 1) (cwI 0 C.ts (good_WS mw_102) rfl rfl rfl (C.ts _ mw_67) (C.ts _ mw_100) (C.ts _ mw_101) rfl (by decide +kernel) ⟨(Nat.le_of_ble_eq_true rfl), (Nat.le_of_ble_eq_true rfl)⟩) rfl (Nat.le_of_ble_eq_true rfl) dX2_init_9 ⟨(Nat.le_of_ble_eq_true rfl), (Nat.le_of_ble_eq_true rfl)⟩ ?_
  refine k_ws (ws' := (lo, .inr (3, [.null, .null, .null, .null])) :: [(q0, lstE g)]) rfl ?_
  refine k_putF C hnm9 in_X2 tyX2_ok nmX2 (q0 := 0) rfl (show vwCl[3]? = some (RX2, TX2, 4) from rfl) 0 (by decide) mw_124 (fun _ h => h) rfl rfl (ty := .object "java/util/List") (tyX2_ok 0 (by decide)) rfl rfl (Nat.le_of_ble_eq_true rfl) dX2_init_12 ?_
  refine k_ws (ws' := (lo, .inr (3, [.ref q0, .null, .null, .null])) :: [(q0, lstE g)]) rfl ?_
  refine j_aload_n C 0 rfl rfl dX2_init_15 ?_
  refine k_newO C hAf in_Jx4a65c tyJx4a65c_ok mw_98 mw_99 mw_67 (show vwCl[0]? = some (RJx4a65c, TJx4a65c, 3) from rfl) fs_Jx4a65c (Nat.le_of_ble_eq_true rfl) (Nat.le_of_ble_eq_true rfl) dX2_init_16 (fun q1 => ?_)
  refine k_ws (ws' := (lo, .inr (3, [.ref q0, .null, .null, .null])) :: (q0, lstE g) :: [(q1, .inr (0, [.int 0, .null, .int 0]))]) rfl ?_
  refine j_dup C rfl dX2_init_19 ?_
  refine k_callL C hao hAB hAf (q0 := 2) (cwI 0 C.ts (good_WS mw_102) rfl rfl rfl (C.ts _ mw_67) (C.ts _ mw_100) (C.ts _ mw_101) rfl (by decide +kernel) ⟨(Nat.le_of_ble_eq_true rfl), (Nat.le_of_ble_eq_true rfl)⟩) rfl (Nat.le_of_ble_eq_true rfl) dX2_init_20 ⟨(Nat.le_of_ble_eq_true rfl), (Nat.le_of_ble_eq_true rfl)⟩ ?_
  refine k_ws (ws' := (lo, .inr (3, [.ref q0, .null, .null, .null])) :: (q0, lstE g) :: [(q1, lstE g)]) rfl ?_
  refine k_putF C hnm9 in_X2 tyX2_ok nmX2 (q0 := 0) rfl (show vwCl[3]? = some (RX2, TX2, 4) from rfl) 1 (by decide) mw_128 (fun _ h => h) rfl rfl (ty := .object "java/util/List") (tyX2_ok 1 (by decide)) rfl rfl (Nat.le_of_ble_eq_true rfl) dX2_init_23 ?_
  refine k_ws (ws' := (lo, .inr (3, [.ref q0, .ref q1, .null, .null])) :: (q0, lstE g) :: [(q1, lstE g)]) rfl ?_
  refine j_aload_n C 0 rfl rfl dX2_init_26 ?_
  refine k_newO C hAf in_Jx4a65c tyJx4a65c_ok mw_98 mw_99 mw_67 (show vwCl[0]? = some (RJx4a65c, TJx4a65c, 3) from rfl) fs_Jx4a65c (Nat.le_of_ble_eq_true rfl) (Nat.le_of_ble_eq_true rfl) dX2_init_27 (fun q2 => ?_)
  refine k_ws (ws' := (lo, .inr (3, [.ref q0, .ref q1, .null, .null])) :: (q0, lstE g) :: (q1, lstE g) :: [(q2, .inr (0, [.int 0, .null, .int 0]))]) rfl ?_
  refine j_dup C rfl dX2_init_30 ?_
  refine k_callL C hao hAB hAf (q0 := 3) (cwI 0 C.ts (good_WS mw_102) rfl rfl rfl (C.ts _ mw_67) (C.ts _ mw_100) (C.ts _ mw_101) rfl (by decide +kernel) ⟨(Nat.le_of_ble_eq_true rfl), (Nat.le_of_ble_eq_true rfl)⟩) rfl (Nat.le_of_ble_eq_true rfl) dX2_init_31 ⟨(Nat.le_of_ble_eq_true rfl), (Nat.le_of_ble_eq_true rfl)⟩ ?_
  refine k_ws (ws' := (lo, .inr (3, [.ref q0, .ref q1, .null, .null])) :: (q0, lstE g) :: (q1, lstE g) :: [(q2, lstE g)]) rfl ?_
  refine k_putF C hnm9 in_X2 tyX2_ok nmX2 (q0 := 0) rfl (show vwCl[3]? = some (RX2, TX2, 4) from rfl) 2 (by decide) mw_132 (fun _ h => h) rfl rfl (ty := .object "java/util/List") (tyX2_ok 2 (by decide)) rfl rfl (Nat.le_of_ble_eq_true rfl) dX2_init_34 ?_
  refine k_ws (ws' := (lo, .inr (3, [.ref q0, .ref q1, .ref q2, .null])) :: (q0, lstE g) :: (q1, lstE g) :: [(q2, lstE g)]) rfl ?_
  refine j_aload_n C 0 rfl rfl dX2_init_37 ?_
  refine k_newO C hAf in_Jx4a65c tyJx4a65c_ok mw_98 mw_99 mw_67 (show vwCl[0]? = some (RJx4a65c, TJx4a65c, 3) from rfl) fs_Jx4a65c (Nat.le_of_ble_eq_true rfl) (Nat.le_of_ble_eq_true rfl) dX2_init_38 (fun q3 => ?_)
  refine k_ws (ws' := (lo, .inr (3, [.ref q0, .ref q1, .ref q2, .null])) :: (q0, lstE g) :: (q1, lstE g) :: (q2, lstE g) :: [(q3, .inr (0, [.int 0, .null, .int 0]))]) rfl ?_
  refine j_dup C rfl dX2_init_41 ?_
  refine k_callL C hao hAB hAf (q0 := 4) (cwI 0 C.ts (good_WS mw_102) rfl rfl rfl (C.ts _ mw_67) (C.ts _ mw_100) (C.ts _ mw_101) rfl (by decide +kernel) ⟨(Nat.le_of_ble_eq_true rfl), (Nat.le_of_ble_eq_true rfl)⟩) rfl (Nat.le_of_ble_eq_true rfl) dX2_init_42 ⟨(Nat.le_of_ble_eq_true rfl), (Nat.le_of_ble_eq_true rfl)⟩ ?_
  refine k_ws (ws' := (lo, .inr (3, [.ref q0, .ref q1, .ref q2, .null])) :: (q0, lstE g) :: (q1, lstE g) :: (q2, lstE g) :: [(q3, lstE g)]) rfl ?_
  refine k_putF C hnm9 in_X2 tyX2_ok nmX2 (q0 := 0) rfl (show vwCl[3]? = some (RX2, TX2, 4) from rfl) 3 (by decide) mw_136 (fun _ h => h) rfl rfl (ty := .object "java/util/List") (tyX2_ok 3 (by decide)) rfl rfl (Nat.le_of_ble_eq_true rfl) dX2_init_45 ?_
  refine k_ws (ws' := (lo, .inr (3, [.ref q0, .ref q1, .ref q2, .ref q3])) :: (q0, lstE g) :: (q1, lstE g) :: (q2, lstE g) :: [(q3, lstE g)]) rfl ?_
  exact k_vret C rfl ⟨_, _, rfl, (fun i => match i with | 0 => q0 | 1 => q1 | 2 => q2 | 3 => q3 | _ => 0), rfl, rfl⟩ (Nat.le_of_ble_eq_true rfl) (Nat.le_of_ble_eq_true rfl) dX2_init_48
abbrev rm_X0_init : Room := { frames := 2, cells := 42, slots := 646, locals := 60 }
set_option maxRecDepth 100000 in
set_option maxHeartbeats 4000000 in
theorem c_X0_init {l : Launch} {g : Gc} {lo : Nat} {a1 : Nat} (sz : Nat) : Met l yX0_init (WS yX0_init cX0_init 2 none) rm_X0_init (PreK g [(lo, .inr (1, [.null, .null, .null]))] sz [.ref lo, .ref a1]) (PoLv g (fun ws2 => ∃ e1 r, ws2 = (lo, e1) :: r ∧ ∃ z z0 z1 : Nat → Nat, e1 = balE a1 z ∧ r = balR g z z0 z1) (va_A [(lo, .inr (1, [.null, .null, .null]))] sz)) 42 646 (va_A [(lo, .inr (1, [.null, .null, .null]))] sz) := by
  refine k_metK (by decide) (Nat.le_of_ble_eq_true rfl) fun p e s m9 below meth c C hao hnm9 hAB hAf => ?_
  refine j_sub [0, 1] rfl ?_
  refine j_aload_n C 0 rfl rfl dX0_init_0 ?_
  refine j_objInit C mw_155 mw_90 mw_91 (Nat.le_of_ble_eq_true rfl) (Nat.le_of_ble_eq_true rfl) dX0_init_1 ?_
  refine j_aload_n C 0 rfl rfl dX0_init_4 ?_
  refine k_newO C hAf in_X7 tyX7_ok mw_156 mw_157 mw_69 (show vwCl[8]? = some (RX7, TX7, 8) from rfl) fs_X7 (Nat.le_of_ble_eq_true rfl) (Nat.le_of_ble_eq_true rfl) dX0_init_5 (fun q0 => ?_)
  refine k_ws (ws' := (lo, .inr (1, [.null, .null, .null])) :: [(q0, .inr (8, [.null, .null, .null, .null, .null, .int 0, .int 0, .int 0]))]) rfl ?_
  refine j_dup C rfl dX0_init_8 ?_
  refine k_callN (As := []) C hao hAB hAf (q0 := 1) (fun sz => c_X7_init (lo := q0)  sz) ⟨va_cnB 0 C.ts (good_WS mw_160) rfl rfl rfl (C.k.2.2.2.2.2.2.2.1 _ (List.mem_of_getElem? (l := neL) (i := 1) rfl)) (C.ts _ mw_69) (by decide +kernel) ⟨(Nat.le_of_ble_eq_true rfl), (Nat.le_of_ble_eq_true rfl)⟩, rfl, C.ts _ mw_159⟩ rfl rfl rfl (Nat.le_of_ble_eq_true rfl) dX0_init_9 ⟨(Nat.le_of_ble_eq_true rfl), (Nat.le_of_ble_eq_true rfl)⟩ (fun e1 r hok => ?_)
  obtain ⟨z1, rfl, rfl⟩ := hok
  refine k_ws (ws' := (lo, .inr (1, [.null, .null, .null])) :: (q0, tabE z1) :: tabR g z1) rfl ?_
  refine k_putF C hnm9 in_X0 tyX0_ok nmX0 (q0 := 0) rfl (show vwCl[1]? = some (RX0, TX0, 3) from rfl) 1 (by decide) mw_193 (fun _ h => h) rfl rfl (ty := .object "RodBench$Table") (tyX0_ok 1 (by decide)) rfl rfl (Nat.le_of_ble_eq_true rfl) dX0_init_12 ?_
  refine k_ws (ws' := (lo, .inr (1, [.null, .ref q0, .null])) :: (q0, tabE z1) :: tabR g z1) rfl ?_
  refine j_aload_n C 0 rfl rfl dX0_init_15 ?_
  refine k_newO C hAf in_X7 tyX7_ok mw_156 mw_157 mw_69 (show vwCl[8]? = some (RX7, TX7, 8) from rfl) fs_X7 (Nat.le_of_ble_eq_true rfl) (Nat.le_of_ble_eq_true rfl) dX0_init_16 (fun q2 => ?_)
  refine k_ws (ws' := (lo, .inr (1, [.null, .ref q0, .null])) :: (q0, tabE z1) :: (tabR g z1 ++ ([(q2, .inr (8, [.null, .null, .null, .null, .null, .int 0, .int 0, .int 0]))]))) rfl ?_
  refine j_dup C rfl dX0_init_19 ?_
  refine k_callN (As := []) C hao hAB hAf (q0 := 22) (fun sz => c_X7_init (lo := q2)  sz) ⟨va_cnB 0 C.ts (good_WS mw_160) rfl rfl rfl (C.k.2.2.2.2.2.2.2.1 _ (List.mem_of_getElem? (l := neL) (i := 1) rfl)) (C.ts _ mw_69) (by decide +kernel) ⟨(Nat.le_of_ble_eq_true rfl), (Nat.le_of_ble_eq_true rfl)⟩, rfl, C.ts _ mw_159⟩ rfl rfl rfl (Nat.le_of_ble_eq_true rfl) dX0_init_20 ⟨(Nat.le_of_ble_eq_true rfl), (Nat.le_of_ble_eq_true rfl)⟩ (fun e1 r hok => ?_)
  obtain ⟨z3, rfl, rfl⟩ := hok
  refine k_ws (ws' := (lo, .inr (1, [.null, .ref q0, .null])) :: (q0, tabE z1) :: (tabR g z1 ++ ((q2, tabE z3) :: tabR g z3))) rfl ?_
  refine k_putF C hnm9 in_X0 tyX0_ok nmX0 (q0 := 0) rfl (show vwCl[1]? = some (RX0, TX0, 3) from rfl) 2 (by decide) mw_194 (fun _ h => h) rfl rfl (ty := .object "RodBench$Table") (tyX0_ok 2 (by decide)) rfl rfl (Nat.le_of_ble_eq_true rfl) dX0_init_23 ?_
  refine k_ws (ws' := (lo, .inr (1, [.null, .ref q0, .ref q2])) :: (q0, tabE z1) :: (tabR g z1 ++ ((q2, tabE z3) :: tabR g z3))) rfl ?_
  refine j_aload_n C 0 rfl rfl dX0_init_26 ?_
  refine j_aload_n C 1 rfl rfl dX0_init_27 ?_
  refine k_putF C hnm9 in_X0 tyX0_ok nmX0 (q0 := 0) rfl (show vwCl[1]? = some (RX0, TX0, 3) from rfl) 0 (by decide) mw_192 (fun _ h => h) rfl rfl (ty := .object "RodBench$Frame") (tyX0_ok 0 (by decide)) rfl rfl (Nat.le_of_ble_eq_true rfl) dX0_init_28 ?_
  refine k_ws (ws' := (lo, .inr (1, [.ref a1, .ref q0, .ref q2])) :: (q0, tabE z1) :: (tabR g z1 ++ ((q2, tabE z3) :: tabR g z3))) rfl ?_
  exact k_vret C rfl ⟨_, _, rfl, (fun i => match i with | 0 => q0 | 1 => q2 | _ => 0), z1, z3, rfl, rfl⟩ (Nat.le_of_ble_eq_true rfl) (Nat.le_of_ble_eq_true rfl) dX0_init_31
abbrev rm_X3_init : Room := { frames := 5, cells := 23, slots := 329, locals := 100 }
set_option maxRecDepth 100000 in
set_option maxHeartbeats 4000000 in
theorem c_X3_init {l : Launch} {g : Gc} {lo : Nat} {a1 : Nat} (sz : Nat) : Met l yX3_init (WS yX3_init cX3_init 2 none) rm_X3_init (PreK g [(lo, .inr (4, [.null, .null, .null, .null]))] sz [.ref lo, .ref a1]) (PoLv g (fun ws2 => ∃ e1 r, ws2 = (lo, e1) :: r ∧ ∃ z z0 : Nat → Nat, e1 = offE a1 z ∧ r = offR g z z0) (va_A [(lo, .inr (4, [.null, .null, .null, .null]))] sz)) 23 329 (va_A [(lo, .inr (4, [.null, .null, .null, .null]))] sz) := by
  refine k_metK (by decide) (Nat.le_of_ble_eq_true rfl) fun p e s m9 below meth c C hao hnm9 hAB hAf => ?_
  refine j_sub [0, 1] rfl ?_
  refine j_aload_n C 0 rfl rfl dX3_init_0 ?_
  refine j_objInit C mw_207 mw_90 mw_91 (Nat.le_of_ble_eq_true rfl) (Nat.le_of_ble_eq_true rfl) dX3_init_1 ?_
  refine j_aload_n C 0 rfl rfl dX3_init_4 ?_
  refine k_newO C hAf in_Jx4a65c tyJx4a65c_ok mw_208 mw_99 mw_67 (show vwCl[0]? = some (RJx4a65c, TJx4a65c, 3) from rfl) fs_Jx4a65c (Nat.le_of_ble_eq_true rfl) (Nat.le_of_ble_eq_true rfl) dX3_init_5 (fun q0 => ?_)
  refine k_ws (ws' := (lo, .inr (4, [.null, .null, .null, .null])) :: [(q0, .inr (0, [.int 0, .null, .int 0]))]) rfl ?_
  refine j_dup C rfl dX3_init_8 ?_
  refine k_callL C hao hAB hAf (q0 := 1) (cwI 0 C.ts (good_WS mw_102) rfl rfl rfl (C.ts _ mw_67) (C.ts _ mw_209) (C.ts _ mw_101) rfl (by decide +kernel) ⟨(Nat.le_of_ble_eq_true rfl), (Nat.le_of_ble_eq_true rfl)⟩) rfl (Nat.le_of_ble_eq_true rfl) dX3_init_9 ⟨(Nat.le_of_ble_eq_true rfl), (Nat.le_of_ble_eq_true rfl)⟩ ?_
  refine k_ws (ws' := (lo, .inr (4, [.null, .null, .null, .null])) :: [(q0, lstE g)]) rfl ?_
  refine k_putF C hnm9 in_X3 tyX3_ok nmX3 (q0 := 0) rfl (show vwCl[4]? = some (RX3, TX3, 4) from rfl) 1 (by decide) mw_213 (fun _ h => h) rfl rfl (ty := .object "java/util/List") (tyX3_ok 1 (by decide)) rfl rfl (Nat.le_of_ble_eq_true rfl) dX3_init_12 ?_
  refine k_ws (ws' := (lo, .inr (4, [.null, .ref q0, .null, .null])) :: [(q0, lstE g)]) rfl ?_
  refine j_aload_n C 0 rfl rfl dX3_init_15 ?_
  refine k_newO C hAf in_Jx4a65c tyJx4a65c_ok mw_208 mw_99 mw_67 (show vwCl[0]? = some (RJx4a65c, TJx4a65c, 3) from rfl) fs_Jx4a65c (Nat.le_of_ble_eq_true rfl) (Nat.le_of_ble_eq_true rfl) dX3_init_16 (fun q1 => ?_)
  refine k_ws (ws' := (lo, .inr (4, [.null, .ref q0, .null, .null])) :: (q0, lstE g) :: [(q1, .inr (0, [.int 0, .null, .int 0]))]) rfl ?_
  refine j_dup C rfl dX3_init_19 ?_
  refine k_callL C hao hAB hAf (q0 := 2) (cwI 0 C.ts (good_WS mw_102) rfl rfl rfl (C.ts _ mw_67) (C.ts _ mw_209) (C.ts _ mw_101) rfl (by decide +kernel) ⟨(Nat.le_of_ble_eq_true rfl), (Nat.le_of_ble_eq_true rfl)⟩) rfl (Nat.le_of_ble_eq_true rfl) dX3_init_20 ⟨(Nat.le_of_ble_eq_true rfl), (Nat.le_of_ble_eq_true rfl)⟩ ?_
  refine k_ws (ws' := (lo, .inr (4, [.null, .ref q0, .null, .null])) :: (q0, lstE g) :: [(q1, lstE g)]) rfl ?_
  refine k_putF C hnm9 in_X3 tyX3_ok nmX3 (q0 := 0) rfl (show vwCl[4]? = some (RX3, TX3, 4) from rfl) 2 (by decide) mw_214 (fun _ h => h) rfl rfl (ty := .object "java/util/List") (tyX3_ok 2 (by decide)) rfl rfl (Nat.le_of_ble_eq_true rfl) dX3_init_23 ?_
  refine k_ws (ws' := (lo, .inr (4, [.null, .ref q0, .ref q1, .null])) :: (q0, lstE g) :: [(q1, lstE g)]) rfl ?_
  refine j_aload_n C 0 rfl rfl dX3_init_26 ?_
  refine k_newO C hAf in_X7 tyX7_ok mw_210 mw_157 mw_69 (show vwCl[8]? = some (RX7, TX7, 8) from rfl) fs_X7 (Nat.le_of_ble_eq_true rfl) (Nat.le_of_ble_eq_true rfl) dX3_init_27 (fun q2 => ?_)
  refine k_ws (ws' := (lo, .inr (4, [.null, .ref q0, .ref q1, .null])) :: (q0, lstE g) :: (q1, lstE g) :: [(q2, .inr (8, [.null, .null, .null, .null, .null, .int 0, .int 0, .int 0]))]) rfl ?_
  refine j_dup C rfl dX3_init_30 ?_
  refine k_callN (As := []) C hao hAB hAf (q0 := 3) (fun sz => c_X7_init (lo := q2)  sz) ⟨va_cnB 0 C.ts (good_WS mw_160) rfl rfl rfl (C.k.2.2.2.2.2.2.2.1 _ (List.mem_of_getElem? (l := neL) (i := 2) rfl)) (C.ts _ mw_69) (by decide +kernel) ⟨(Nat.le_of_ble_eq_true rfl), (Nat.le_of_ble_eq_true rfl)⟩, rfl, C.ts _ mw_159⟩ rfl rfl rfl (Nat.le_of_ble_eq_true rfl) dX3_init_31 ⟨(Nat.le_of_ble_eq_true rfl), (Nat.le_of_ble_eq_true rfl)⟩ (fun e1 r hok => ?_)
  obtain ⟨z3, rfl, rfl⟩ := hok
  refine k_ws (ws' := (lo, .inr (4, [.null, .ref q0, .ref q1, .null])) :: (q0, lstE g) :: (q1, lstE g) :: (q2, tabE z3) :: tabR g z3) rfl ?_
  refine k_putF C hnm9 in_X3 tyX3_ok nmX3 (q0 := 0) rfl (show vwCl[4]? = some (RX3, TX3, 4) from rfl) 3 (by decide) mw_215 (fun _ h => h) rfl rfl (ty := .object "RodBench$Table") (tyX3_ok 3 (by decide)) rfl rfl (Nat.le_of_ble_eq_true rfl) dX3_init_34 ?_
  refine k_ws (ws' := (lo, .inr (4, [.null, .ref q0, .ref q1, .ref q2])) :: (q0, lstE g) :: (q1, lstE g) :: (q2, tabE z3) :: tabR g z3) rfl ?_
  refine j_aload_n C 0 rfl rfl dX3_init_37 ?_
  refine j_aload_n C 1 rfl rfl dX3_init_38 ?_
  refine k_putF C hnm9 in_X3 tyX3_ok nmX3 (q0 := 0) rfl (show vwCl[4]? = some (RX3, TX3, 4) from rfl) 0 (by decide) mw_212 (fun _ h => h) rfl rfl (ty := .object "RodBench$Frame") (tyX3_ok 0 (by decide)) rfl rfl (Nat.le_of_ble_eq_true rfl) dX3_init_39 ?_
  refine k_ws (ws' := (lo, .inr (4, [.ref a1, .ref q0, .ref q1, .ref q2])) :: (q0, lstE g) :: (q1, lstE g) :: (q2, tabE z3) :: tabR g z3) rfl ?_
  exact k_vret C rfl ⟨_, _, rfl, (fun i => match i with | 0 => q0 | 1 => q1 | 2 => q2 | _ => 0), z3, rfl, rfl⟩ (Nat.le_of_ble_eq_true rfl) (Nat.le_of_ble_eq_true rfl) dX3_init_42
abbrev rm_X1_init : Room := { frames := 1, cells := 2, slots := 128, locals := 20 }
set_option maxRecDepth 100000 in
set_option maxHeartbeats 4000000 in
theorem c_X1_init {l : Launch} {g : Gc} {lo : Nat} {a1 : Nat} (sz : Nat) : Met l yX1_init (WS yX1_init cX1_init 2 none) rm_X1_init (PreK g [(lo, .inr (2, [.null, .null, .null, .int 0, .int 0]))] sz [.ref lo, .ref a1]) (PoLv g (fun ws2 => ∃ e1 r, ws2 = (lo, e1) :: r ∧ ∃ z : Nat → Nat, e1 = bodE a1 z ∧ r = bodR g z) (va_A [(lo, .inr (2, [.null, .null, .null, .int 0, .int 0]))] sz)) 2 128 (va_A [(lo, .inr (2, [.null, .null, .null, .int 0, .int 0]))] sz) := by
  refine k_metK (by decide) (Nat.le_of_ble_eq_true rfl) fun p e s m9 below meth c C hao hnm9 hAB hAf => ?_
  refine j_sub [0, 1] rfl ?_
  refine j_aload_n C 0 rfl rfl dX1_init_0 ?_
  refine j_objInit C mw_230 mw_90 mw_91 (Nat.le_of_ble_eq_true rfl) (Nat.le_of_ble_eq_true rfl) dX1_init_1 ?_
  refine j_aload_n C 0 rfl rfl dX1_init_4 ?_
  refine j_bipush (v := 64) C (by decide) dX1_init_5 ?_
  refine k_newI C hAf mw_191 (n := 64) (N' := 64) (by decide) (by decide) (Nat.le_of_ble_eq_true rfl) (Nat.le_of_ble_eq_true rfl) (Nat.le_of_ble_eq_true rfl) dX1_init_7 (fun q0 => ?_)
  refine k_ws (ws' := (lo, .inr (2, [.null, .null, .null, .int 0, .int 0])) :: [(q0, aI g 64 (fun _ => 0))]) rfl ?_
  refine k_putF C hnm9 in_X1 tyX1_ok nmX1 (q0 := 0) rfl (show vwCl[2]? = some (RX1, TX1, 5) from rfl) 1 (by decide) mw_232 (fun _ h => h) rfl rfl (ty := .array .int) (tyX1_ok 1 (by decide)) rfl rfl (Nat.le_of_ble_eq_true rfl) dX1_init_9 ?_
  refine k_ws (ws' := (lo, .inr (2, [.null, .ref q0, .null, .int 0, .int 0])) :: [(q0, aI g 64 (fun _ => 0))]) rfl ?_
  refine j_aload_n C 0 rfl rfl dX1_init_12 ?_
  refine j_bipush (v := 64) C (by decide) dX1_init_13 ?_
  refine k_newI C hAf mw_191 (n := 64) (N' := 64) (by decide) (by decide) (Nat.le_of_ble_eq_true rfl) (Nat.le_of_ble_eq_true rfl) (Nat.le_of_ble_eq_true rfl) dX1_init_15 (fun q1 => ?_)
  refine k_ws (ws' := (lo, .inr (2, [.null, .ref q0, .null, .int 0, .int 0])) :: (q0, aI g 64 (fun _ => 0)) :: [(q1, aI g 64 (fun _ => 0))]) rfl ?_
  refine k_putF C hnm9 in_X1 tyX1_ok nmX1 (q0 := 0) rfl (show vwCl[2]? = some (RX1, TX1, 5) from rfl) 2 (by decide) mw_233 (fun _ h => h) rfl rfl (ty := .array .int) (tyX1_ok 2 (by decide)) rfl rfl (Nat.le_of_ble_eq_true rfl) dX1_init_17 ?_
  refine k_ws (ws' := (lo, .inr (2, [.null, .ref q0, .ref q1, .int 0, .int 0])) :: (q0, aI g 64 (fun _ => 0)) :: [(q1, aI g 64 (fun _ => 0))]) rfl ?_
  refine j_aload_n C 0 rfl rfl dX1_init_20 ?_
  refine j_iconst (v := 0) C (by decide) dX1_init_21 ?_
  refine k_put C in_X1 tyX1_ok nmX1 (q0 := 0) rfl (show vwCl[2]? = some (RX1, TX1, 5) from rfl) 3 (by decide) mw_234 (fun _ h => h) rfl (ty := .int) (tyX1_ok 3 (by decide)) rfl rfl (Nat.le_of_ble_eq_true rfl) dX1_init_22 ?_
  refine k_ws (ws' := (lo, .inr (2, [.null, .ref q0, .ref q1, .int 0, .int 0])) :: (q0, aI g 64 (fun _ => 0)) :: [(q1, aI g 64 (fun _ => 0))]) rfl ?_
  refine j_aload_n C 0 rfl rfl dX1_init_25 ?_
  refine j_iconst (v := 0) C (by decide) dX1_init_26 ?_
  refine k_put C in_X1 tyX1_ok nmX1 (q0 := 0) rfl (show vwCl[2]? = some (RX1, TX1, 5) from rfl) 4 (by decide) mw_235 (fun _ h => h) rfl (ty := .int) (tyX1_ok 4 (by decide)) rfl rfl (Nat.le_of_ble_eq_true rfl) dX1_init_27 ?_
  refine k_ws (ws' := (lo, .inr (2, [.null, .ref q0, .ref q1, .int 0, .int 0])) :: (q0, aI g 64 (fun _ => 0)) :: [(q1, aI g 64 (fun _ => 0))]) rfl ?_
  refine j_aload_n C 0 rfl rfl dX1_init_30 ?_
  refine j_aload_n C 1 rfl rfl dX1_init_31 ?_
  refine k_putF C hnm9 in_X1 tyX1_ok nmX1 (q0 := 0) rfl (show vwCl[2]? = some (RX1, TX1, 5) from rfl) 0 (by decide) mw_231 (fun _ h => h) rfl rfl (ty := .object "RodBench$Frame") (tyX1_ok 0 (by decide)) rfl rfl (Nat.le_of_ble_eq_true rfl) dX1_init_32 ?_
  refine k_ws (ws' := (lo, .inr (2, [.ref a1, .ref q0, .ref q1, .int 0, .int 0])) :: (q0, aI g 64 (fun _ => 0)) :: [(q1, aI g 64 (fun _ => 0))]) rfl ?_
  exact k_vret C rfl ⟨_, _, rfl, (fun i => match i with | 0 => q0 | 1 => q1 | _ => 0), rfl, rfl⟩ (Nat.le_of_ble_eq_true rfl) (Nat.le_of_ble_eq_true rfl) dX1_init_35
abbrev rm_X9_init : Room := { frames := 1, cells := 1, slots := 6, locals := 20 }
set_option maxRecDepth 100000 in
set_option maxHeartbeats 4000000 in
theorem c_X9_init {l : Launch} {g : Gc} {lo : Nat} {a1 : Nat} {a2 : Nat} (sz : Nat) : Met l yX9_init (WS yX9_init cX9_init 3 none) rm_X9_init (PreK g [(lo, .inr (9, [.null, .null, .null, .int 0]))] sz [.ref lo, .ref a1, .ref a2]) (PoLv g (fun ws2 => ∃ e1 r, ws2 = (lo, e1) :: r ∧ ∃ z : Nat → Nat, e1 = trsE a1 a2 z ∧ r = trsR g z) (va_A [(lo, .inr (9, [.null, .null, .null, .int 0]))] sz)) 1 6 (va_A [(lo, .inr (9, [.null, .null, .null, .int 0]))] sz) := by
  refine k_metK (by decide) (Nat.le_of_ble_eq_true rfl) fun p e s m9 below meth c C hao hnm9 hAB hAf => ?_
  refine j_sub [0, 1, 2] rfl ?_
  refine j_aload_n C 0 rfl rfl dX9_init_0 ?_
  refine j_objInit C mw_252 mw_90 mw_91 (Nat.le_of_ble_eq_true rfl) (Nat.le_of_ble_eq_true rfl) dX9_init_1 ?_
  refine j_aload_n C 0 rfl rfl dX9_init_4 ?_
  refine j_bipush (v := 6) C (by decide) dX9_init_5 ?_
  refine k_newT C hAf mw_253 (n := 6) (N' := 6) (by decide) (by decide) (Nat.le_of_ble_eq_true rfl) (Nat.le_of_ble_eq_true rfl) (Nat.le_of_ble_eq_true rfl) dX9_init_7 (fun q0 => ?_)
  refine k_ws (ws' := (lo, .inr (9, [.null, .null, .null, .int 0])) :: [(q0, aR g 3 6 (fun _ => none))]) rfl ?_
  refine k_putF C hnm9 in_X9 tyX9_ok nmX9 (q0 := 0) rfl (show vwCl[9]? = some (RX9, TX9, 4) from rfl) 2 (by decide) mw_257 (fun _ h => h) rfl rfl (ty := .array (.object "RodBench$Thing")) (tyX9_ok 2 (by decide)) rfl rfl (Nat.le_of_ble_eq_true rfl) dX9_init_10 ?_
  refine k_ws (ws' := (lo, .inr (9, [.null, .null, .ref q0, .int 0])) :: [(q0, aR g 3 6 (fun _ => none))]) rfl ?_
  refine j_aload_n C 0 rfl rfl dX9_init_13 ?_
  refine j_iconst (v := 0) C (by decide) dX9_init_14 ?_
  refine k_put C in_X9 tyX9_ok nmX9 (q0 := 0) rfl (show vwCl[9]? = some (RX9, TX9, 4) from rfl) 3 (by decide) mw_258 (fun _ h => h) rfl (ty := .int) (tyX9_ok 3 (by decide)) rfl rfl (Nat.le_of_ble_eq_true rfl) dX9_init_15 ?_
  refine k_ws (ws' := (lo, .inr (9, [.null, .null, .ref q0, .int 0])) :: [(q0, aR g 3 6 (fun _ => none))]) rfl ?_
  refine j_aload_n C 0 rfl rfl dX9_init_18 ?_
  refine j_aload_n C 1 rfl rfl dX9_init_19 ?_
  refine k_putF C hnm9 in_X9 tyX9_ok nmX9 (q0 := 0) rfl (show vwCl[9]? = some (RX9, TX9, 4) from rfl) 0 (by decide) mw_255 (fun _ h => h) rfl rfl (ty := .object "RodBench$Frame") (tyX9_ok 0 (by decide)) rfl rfl (Nat.le_of_ble_eq_true rfl) dX9_init_20 ?_
  refine k_ws (ws' := (lo, .inr (9, [.ref a1, .null, .ref q0, .int 0])) :: [(q0, aR g 3 6 (fun _ => none))]) rfl ?_
  refine j_aload_n C 0 rfl rfl dX9_init_23 ?_
  refine j_aload_n C 2 rfl rfl dX9_init_24 ?_
  refine k_putF C hnm9 in_X9 tyX9_ok nmX9 (q0 := 0) rfl (show vwCl[9]? = some (RX9, TX9, 4) from rfl) 1 (by decide) mw_256 (fun _ h => h) rfl rfl (ty := .object "RodBench$Balance") (tyX9_ok 1 (by decide)) rfl rfl (Nat.le_of_ble_eq_true rfl) dX9_init_25 ?_
  refine k_ws (ws' := (lo, .inr (9, [.ref a1, .ref a2, .ref q0, .int 0])) :: [(q0, aR g 3 6 (fun _ => none))]) rfl ?_
  exact k_vret C rfl ⟨_, _, rfl, (fun i => match i with | 0 => q0 | _ => 0), rfl, rfl⟩ (Nat.le_of_ble_eq_true rfl) (Nat.le_of_ble_eq_true rfl) dX9_init_28
abbrev rm_X10_init : Room := { frames := 6, cells := 77, slots := 1141, locals := 160 }
set_option maxRecDepth 100000 in
set_option maxHeartbeats 4000000 in
theorem c_X10_init {l : Launch} {g : Gc} {lo : Nat}  (sz : Nat) : Met l yX10_init (WS yX10_init cX10_init 1 none) rm_X10_init (PreK g [(lo, .inr (10, [.null, .null, .null, .null, .null]))] sz [.ref lo]) (PoLv g (fun ws2 => ∃ e1 r, ws2 = (lo, e1) :: r ∧ ∃ z zf zb z0 z1 zo z2 zd zt : Nat → Nat, e1 = benE z ∧ r = benR g z zf zb z0 z1 zo z2 zd zt) (va_A [(lo, .inr (10, [.null, .null, .null, .null, .null]))] sz)) 77 1141 (va_A [(lo, .inr (10, [.null, .null, .null, .null, .null]))] sz) := by
  refine k_metK (by decide) (Nat.le_of_ble_eq_true rfl) fun p e s m9 below meth c C hao hnm9 hAB hAf => ?_
  refine j_sub [0] rfl ?_
  refine j_aload_n C 0 rfl rfl dX10_init_0 ?_
  refine j_objInit C mw_89 mw_90 mw_91 (Nat.le_of_ble_eq_true rfl) (Nat.le_of_ble_eq_true rfl) dX10_init_1 ?_
  refine j_aload_n C 0 rfl rfl dX10_init_4 ?_
  refine k_newO C hAf in_X2 tyX2_ok mw_92 mw_93 mw_64 (show vwCl[3]? = some (RX2, TX2, 4) from rfl) fs_X2 (Nat.le_of_ble_eq_true rfl) (Nat.le_of_ble_eq_true rfl) dX10_init_5 (fun q0 => ?_)
  refine k_ws (ws' := (lo, .inr (10, [.null, .null, .null, .null, .null])) :: [(q0, .inr (3, [.null, .null, .null, .null]))]) rfl ?_
  refine j_dup C rfl dX10_init_8 ?_
  refine k_callN (As := []) C hao hAB hAf (q0 := 1) (fun sz => c_X2_init (lo := q0)  sz) ⟨va_cnB 0 C.ts (good_WS mw_96) rfl rfl rfl (C.k.2.2.2.2.2.2.2.1 _ (List.mem_of_getElem? (l := neL) (i := 0) rfl)) (C.ts _ mw_64) (by decide +kernel) ⟨(Nat.le_of_ble_eq_true rfl), (Nat.le_of_ble_eq_true rfl)⟩, rfl, C.ts _ mw_95⟩ rfl rfl rfl (Nat.le_of_ble_eq_true rfl) dX10_init_9 ⟨(Nat.le_of_ble_eq_true rfl), (Nat.le_of_ble_eq_true rfl)⟩ (fun e1 r hok => ?_)
  obtain ⟨z1, rfl, rfl⟩ := hok
  refine k_ws (ws' := (lo, .inr (10, [.null, .null, .null, .null, .null])) :: (q0, frmE z1) :: frmR g z1) rfl ?_
  refine k_putF C hnm9 in_X10 tyX10_ok nmX10 (q0 := 0) rfl (show vwCl[10]? = some (RX10, TX10, 5) from rfl) 0 (by decide) mw_268 (fun _ h => h) rfl rfl (ty := .object "RodBench$Frame") (tyX10_ok 0 (by decide)) rfl rfl (Nat.le_of_ble_eq_true rfl) dX10_init_12 ?_
  refine k_ws (ws' := (lo, .inr (10, [.ref q0, .null, .null, .null, .null])) :: (q0, frmE z1) :: frmR g z1) rfl ?_
  refine j_aload_n C 0 rfl rfl dX10_init_15 ?_
  refine k_newO C hAf in_X0 tyX0_ok mw_150 mw_151 mw_68 (show vwCl[1]? = some (RX0, TX0, 3) from rfl) fs_X0 (Nat.le_of_ble_eq_true rfl) (Nat.le_of_ble_eq_true rfl) dX10_init_16 (fun q2 => ?_)
  refine k_ws (ws' := (lo, .inr (10, [.ref q0, .null, .null, .null, .null])) :: (q0, frmE z1) :: (frmR g z1 ++ ([(q2, .inr (1, [.null, .null, .null]))]))) rfl ?_
  refine j_dup C rfl dX10_init_19 ?_
  refine j_aload_n C 0 rfl rfl dX10_init_20 ?_
  refine k_get C in_X10 (q0 := 0) rfl (show vwCl[10]? = some (RX10, TX10, 5) from rfl) 0 (by decide) mw_268 (fun _ h => h) (v := .ref q0) rfl dX10_init_21 ?_
  refine k_callK (As := [.ref q0]) C hao hAB hAf (q0 := 6) (fun sz => c_X0_init (lo := q2) (a1 := q0) sz) (cwI 1 C.ts (good_WS mw_154) rfl rfl rfl (C.ts _ mw_68) (C.ts _ mw_152) (C.ts _ mw_153) rfl (by decide +kernel) ⟨(Nat.le_of_ble_eq_true rfl), (Nat.le_of_ble_eq_true rfl)⟩) rfl rfl rfl (Nat.le_of_ble_eq_true rfl) dX10_init_24 ⟨(Nat.le_of_ble_eq_true rfl), (Nat.le_of_ble_eq_true rfl)⟩ (fun e1 r hok => ?_)
  obtain ⟨z3, z4, z5, rfl, rfl⟩ := hok
  refine k_ws (ws' := (lo, .inr (10, [.ref q0, .null, .null, .null, .null])) :: (q0, frmE z1) :: (frmR g z1 ++ ((q2, balE q0 z3) :: balR g z3 z4 z5))) rfl ?_
  refine k_putF C hnm9 in_X10 tyX10_ok nmX10 (q0 := 0) rfl (show vwCl[10]? = some (RX10, TX10, 5) from rfl) 1 (by decide) mw_269 (fun _ h => h) rfl rfl (ty := .object "RodBench$Balance") (tyX10_ok 1 (by decide)) rfl rfl (Nat.le_of_ble_eq_true rfl) dX10_init_27 ?_
  refine k_ws (ws' := (lo, .inr (10, [.ref q0, .ref q2, .null, .null, .null])) :: (q0, frmE z1) :: (frmR g z1 ++ ((q2, balE q0 z3) :: balR g z3 z4 z5))) rfl ?_
  refine j_aload_n C 0 rfl rfl dX10_init_30 ?_
  refine k_newO C hAf in_X3 tyX3_ok mw_202 mw_203 mw_70 (show vwCl[4]? = some (RX3, TX3, 4) from rfl) fs_X3 (Nat.le_of_ble_eq_true rfl) (Nat.le_of_ble_eq_true rfl) dX10_init_31 (fun q6 => ?_)
  refine k_ws (ws' := (lo, .inr (10, [.ref q0, .ref q2, .null, .null, .null])) :: (q0, frmE z1) :: (frmR g z1 ++ ((q2, balE q0 z3) :: (balR g z3 z4 z5 ++ ([(q6, .inr (4, [.null, .null, .null, .null]))]))))) rfl ?_
  refine j_dup C rfl dX10_init_34 ?_
  refine j_aload_n C 0 rfl rfl dX10_init_35 ?_
  refine k_get C in_X10 (q0 := 0) rfl (show vwCl[10]? = some (RX10, TX10, 5) from rfl) 0 (by decide) mw_268 (fun _ h => h) (v := .ref q0) rfl dX10_init_36 ?_
  refine k_callK (As := [.ref q0]) C hao hAB hAf (q0 := 49) (fun sz => c_X3_init (lo := q6) (a1 := q0) sz) (cwI 1 C.ts (good_WS mw_206) rfl rfl rfl (C.ts _ mw_70) (C.ts _ mw_204) (C.ts _ mw_205) rfl (by decide +kernel) ⟨(Nat.le_of_ble_eq_true rfl), (Nat.le_of_ble_eq_true rfl)⟩) rfl rfl rfl (Nat.le_of_ble_eq_true rfl) dX10_init_39 ⟨(Nat.le_of_ble_eq_true rfl), (Nat.le_of_ble_eq_true rfl)⟩ (fun e1 r hok => ?_)
  obtain ⟨z7, z8, rfl, rfl⟩ := hok
  refine k_ws (ws' := (lo, .inr (10, [.ref q0, .ref q2, .null, .null, .null])) :: (q0, frmE z1) :: (frmR g z1 ++ ((q2, balE q0 z3) :: (balR g z3 z4 z5 ++ ((q6, offE q0 z7) :: offR g z7 z8))))) rfl ?_
  refine k_putF C hnm9 in_X10 tyX10_ok nmX10 (q0 := 0) rfl (show vwCl[10]? = some (RX10, TX10, 5) from rfl) 2 (by decide) mw_270 (fun _ h => h) rfl rfl (ty := .object "RodBench$Offers") (tyX10_ok 2 (by decide)) rfl rfl (Nat.le_of_ble_eq_true rfl) dX10_init_42 ?_
  refine k_ws (ws' := (lo, .inr (10, [.ref q0, .ref q2, .ref q6, .null, .null])) :: (q0, frmE z1) :: (frmR g z1 ++ ((q2, balE q0 z3) :: (balR g z3 z4 z5 ++ ((q6, offE q0 z7) :: offR g z7 z8))))) rfl ?_
  refine j_aload_n C 0 rfl rfl dX10_init_45 ?_
  refine k_newO C hAf in_X1 tyX1_ok mw_225 mw_226 mw_71 (show vwCl[2]? = some (RX1, TX1, 5) from rfl) fs_X1 (Nat.le_of_ble_eq_true rfl) (Nat.le_of_ble_eq_true rfl) dX10_init_46 (fun q9 => ?_)
  refine k_ws (ws' := (lo, .inr (10, [.ref q0, .ref q2, .ref q6, .null, .null])) :: (q0, frmE z1) :: (frmR g z1 ++ ((q2, balE q0 z3) :: (balR g z3 z4 z5 ++ ((q6, offE q0 z7) :: (offR g z7 z8 ++ ([(q9, .inr (2, [.null, .null, .null, .int 0, .int 0]))]))))))) rfl ?_
  refine j_dup C rfl dX10_init_49 ?_
  refine j_aload_n C 0 rfl rfl dX10_init_50 ?_
  refine k_get C in_X10 (q0 := 0) rfl (show vwCl[10]? = some (RX10, TX10, 5) from rfl) 0 (by decide) mw_268 (fun _ h => h) (v := .ref q0) rfl dX10_init_51 ?_
  refine k_callK (As := [.ref q0]) C hao hAB hAf (q0 := 73) (fun sz => c_X1_init (lo := q9) (a1 := q0) sz) (cwI 1 C.ts (good_WS mw_229) rfl rfl rfl (C.ts _ mw_71) (C.ts _ mw_227) (C.ts _ mw_228) rfl (by decide +kernel) ⟨(Nat.le_of_ble_eq_true rfl), (Nat.le_of_ble_eq_true rfl)⟩) rfl rfl rfl (Nat.le_of_ble_eq_true rfl) dX10_init_54 ⟨(Nat.le_of_ble_eq_true rfl), (Nat.le_of_ble_eq_true rfl)⟩ (fun e1 r hok => ?_)
  obtain ⟨z10, rfl, rfl⟩ := hok
  refine k_ws (ws' := (lo, .inr (10, [.ref q0, .ref q2, .ref q6, .null, .null])) :: (q0, frmE z1) :: (frmR g z1 ++ ((q2, balE q0 z3) :: (balR g z3 z4 z5 ++ ((q6, offE q0 z7) :: (offR g z7 z8 ++ ((q9, bodE q0 z10) :: bodR g z10))))))) rfl ?_
  refine k_putF C hnm9 in_X10 tyX10_ok nmX10 (q0 := 0) rfl (show vwCl[10]? = some (RX10, TX10, 5) from rfl) 3 (by decide) mw_271 (fun _ h => h) rfl rfl (ty := .object "RodBench$Bodies") (tyX10_ok 3 (by decide)) rfl rfl (Nat.le_of_ble_eq_true rfl) dX10_init_57 ?_
  refine k_ws (ws' := (lo, .inr (10, [.ref q0, .ref q2, .ref q6, .ref q9, .null])) :: (q0, frmE z1) :: (frmR g z1 ++ ((q2, balE q0 z3) :: (balR g z3 z4 z5 ++ ((q6, offE q0 z7) :: (offR g z7 z8 ++ ((q9, bodE q0 z10) :: bodR g z10))))))) rfl ?_
  refine j_aload_n C 0 rfl rfl dX10_init_60 ?_
  refine k_newO C hAf in_X9 tyX9_ok mw_247 mw_248 mw_72 (show vwCl[9]? = some (RX9, TX9, 4) from rfl) fs_X9 (Nat.le_of_ble_eq_true rfl) (Nat.le_of_ble_eq_true rfl) dX10_init_61 (fun q11 => ?_)
  refine k_ws (ws' := (lo, .inr (10, [.ref q0, .ref q2, .ref q6, .ref q9, .null])) :: (q0, frmE z1) :: (frmR g z1 ++ ((q2, balE q0 z3) :: (balR g z3 z4 z5 ++ ((q6, offE q0 z7) :: (offR g z7 z8 ++ ((q9, bodE q0 z10) :: (bodR g z10 ++ ([(q11, .inr (9, [.null, .null, .null, .int 0]))]))))))))) rfl ?_
  refine j_dup C rfl dX10_init_64 ?_
  refine j_aload_n C 0 rfl rfl dX10_init_65 ?_
  refine k_get C in_X10 (q0 := 0) rfl (show vwCl[10]? = some (RX10, TX10, 5) from rfl) 0 (by decide) mw_268 (fun _ h => h) (v := .ref q0) rfl dX10_init_66 ?_
  refine j_aload_n C 0 rfl rfl dX10_init_69 ?_
  refine k_get C in_X10 (q0 := 0) rfl (show vwCl[10]? = some (RX10, TX10, 5) from rfl) 1 (by decide) mw_269 (fun _ h => h) (v := .ref q2) rfl dX10_init_70 ?_
  refine k_callK (As := [.ref q0, .ref q2]) C hao hAB hAf (q0 := 76) (fun sz => c_X9_init (lo := q11) (a1 := q0) (a2 := q2) sz) (cwI 2 C.ts (good_WS mw_251) rfl rfl rfl (C.ts _ mw_72) (C.ts _ mw_249) (C.ts _ mw_250) rfl (by decide +kernel) ⟨(Nat.le_of_ble_eq_true rfl), (Nat.le_of_ble_eq_true rfl)⟩) rfl rfl rfl (Nat.le_of_ble_eq_true rfl) dX10_init_73 ⟨(Nat.le_of_ble_eq_true rfl), (Nat.le_of_ble_eq_true rfl)⟩ (fun e1 r hok => ?_)
  obtain ⟨z12, rfl, rfl⟩ := hok
  refine k_ws (ws' := (lo, .inr (10, [.ref q0, .ref q2, .ref q6, .ref q9, .null])) :: (q0, frmE z1) :: (frmR g z1 ++ ((q2, balE q0 z3) :: (balR g z3 z4 z5 ++ ((q6, offE q0 z7) :: (offR g z7 z8 ++ ((q9, bodE q0 z10) :: (bodR g z10 ++ ((q11, trsE q0 q2 z12) :: trsR g z12))))))))) rfl ?_
  refine k_putF C hnm9 in_X10 tyX10_ok nmX10 (q0 := 0) rfl (show vwCl[10]? = some (RX10, TX10, 5) from rfl) 4 (by decide) mw_272 (fun _ h => h) rfl rfl (ty := .object "RodBench$Trays") (tyX10_ok 4 (by decide)) rfl rfl (Nat.le_of_ble_eq_true rfl) dX10_init_76 ?_
  refine k_ws (ws' := (lo, .inr (10, [.ref q0, .ref q2, .ref q6, .ref q9, .ref q11])) :: (q0, frmE z1) :: (frmR g z1 ++ ((q2, balE q0 z3) :: (balR g z3 z4 z5 ++ ((q6, offE q0 z7) :: (offR g z7 z8 ++ ((q9, bodE q0 z10) :: (bodR g z10 ++ ((q11, trsE q0 q2 z12) :: trsR g z12))))))))) rfl ?_
  exact k_vret C rfl ⟨_, _, rfl, (fun i => match i with | 0 => q0 | 1 => q2 | 2 => q6 | 3 => q9 | 4 => q11 | _ => 0), z1, z3, z4, z5, z7, z8, z10, z12, rfl, rfl⟩ (Nat.le_of_ble_eq_true rfl) (Nat.le_of_ble_eq_true rfl) dX10_init_79
abbrev rm_X11_init : Room := { frames := 1, cells := 25, slots := 717, locals := 20 }
set_option maxRecDepth 100000 in
set_option maxHeartbeats 4000000 in
theorem c_X11_init {l : Launch} {g : Gc} {lo : Nat}  (sz : Nat) : Met l yX11_init (WS yX11_init cX11_init 1 none) rm_X11_init (PreK g [(lo, .inr (11, [.int 0, .int 0, .null, .null, .null, .null, .null, .null, .null, .null, .null, .null, .null, .int 0, .int 0, .null, .null, .null, .int 0, .null, .null, .null, .null, .int 0, .null, .null, .null, .null, .null, .null, .int 0, .null]))] sz [.ref lo]) (PoLv g (fun ws2 => ∃ e1 r, ws2 = (lo, e1) :: r ∧ ∃ z : Nat → Nat, e1 = modE z ∧ r = modR g z) (va_A [(lo, .inr (11, [.int 0, .int 0, .null, .null, .null, .null, .null, .null, .null, .null, .null, .null, .null, .int 0, .int 0, .null, .null, .null, .int 0, .null, .null, .null, .null, .int 0, .null, .null, .null, .null, .null, .null, .int 0, .null]))] sz)) 25 717 (va_A [(lo, .inr (11, [.int 0, .int 0, .null, .null, .null, .null, .null, .null, .null, .null, .null, .null, .null, .int 0, .int 0, .null, .null, .null, .int 0, .null, .null, .null, .null, .int 0, .null, .null, .null, .null, .null, .null, .int 0, .null]))] sz) := by
  refine k_metK (by decide) (Nat.le_of_ble_eq_true rfl) fun p e s m9 below meth c C hao hnm9 hAB hAf => ?_
  refine j_sub [0] rfl ?_
  refine j_aload_n C 0 rfl rfl dX11_init_0 ?_
  refine j_objInit C mw_1004 mw_90 mw_91 (Nat.le_of_ble_eq_true rfl) (Nat.le_of_ble_eq_true rfl) dX11_init_1 ?_
  refine j_aload_n C 0 rfl rfl dX11_init_4 ?_
  refine j_bipush (v := 6) C (by decide) dX11_init_5 ?_
  refine k_newI C hAf mw_191 (n := 6) (N' := 6) (by decide) (by decide) (Nat.le_of_ble_eq_true rfl) (Nat.le_of_ble_eq_true rfl) (Nat.le_of_ble_eq_true rfl) dX11_init_7 (fun q0 => ?_)
  refine k_ws (ws' := (lo, .inr (11, [.int 0, .int 0, .null, .null, .null, .null, .null, .null, .null, .null, .null, .null, .null, .int 0, .int 0, .null, .null, .null, .int 0, .null, .null, .null, .null, .int 0, .null, .null, .null, .null, .null, .null, .int 0, .null])) :: [(q0, aI g 6 (fun _ => 0))]) rfl ?_
  refine k_putF C hnm9 in_X11 tyX11_ok nmX11 (q0 := 0) rfl (show vwCl[11]? = some (RX11, TX11, 32) from rfl) 2 (by decide) mw_1007 (fun _ h => h) rfl rfl (ty := .array .int) (tyX11_ok 2 (by decide)) rfl rfl (Nat.le_of_ble_eq_true rfl) dX11_init_9 ?_
  refine k_ws (ws' := (lo, .inr (11, [.int 0, .int 0, .ref q0, .null, .null, .null, .null, .null, .null, .null, .null, .null, .null, .int 0, .int 0, .null, .null, .null, .int 0, .null, .null, .null, .null, .int 0, .null, .null, .null, .null, .null, .null, .int 0, .null])) :: [(q0, aI g 6 (fun _ => 0))]) rfl ?_
  refine j_aload_n C 0 rfl rfl dX11_init_12 ?_
  refine j_bipush (v := 6) C (by decide) dX11_init_13 ?_
  refine k_newI C hAf mw_191 (n := 6) (N' := 6) (by decide) (by decide) (Nat.le_of_ble_eq_true rfl) (Nat.le_of_ble_eq_true rfl) (Nat.le_of_ble_eq_true rfl) dX11_init_15 (fun q1 => ?_)
  refine k_ws (ws' := (lo, .inr (11, [.int 0, .int 0, .ref q0, .null, .null, .null, .null, .null, .null, .null, .null, .null, .null, .int 0, .int 0, .null, .null, .null, .int 0, .null, .null, .null, .null, .int 0, .null, .null, .null, .null, .null, .null, .int 0, .null])) :: (q0, aI g 6 (fun _ => 0)) :: [(q1, aI g 6 (fun _ => 0))]) rfl ?_
  refine k_putF C hnm9 in_X11 tyX11_ok nmX11 (q0 := 0) rfl (show vwCl[11]? = some (RX11, TX11, 32) from rfl) 3 (by decide) mw_1008 (fun _ h => h) rfl rfl (ty := .array .int) (tyX11_ok 3 (by decide)) rfl rfl (Nat.le_of_ble_eq_true rfl) dX11_init_17 ?_
  refine k_ws (ws' := (lo, .inr (11, [.int 0, .int 0, .ref q0, .ref q1, .null, .null, .null, .null, .null, .null, .null, .null, .null, .int 0, .int 0, .null, .null, .null, .int 0, .null, .null, .null, .null, .int 0, .null, .null, .null, .null, .null, .null, .int 0, .null])) :: (q0, aI g 6 (fun _ => 0)) :: [(q1, aI g 6 (fun _ => 0))]) rfl ?_
  refine j_aload_n C 0 rfl rfl dX11_init_20 ?_
  refine j_bipush (v := 6) C (by decide) dX11_init_21 ?_
  refine k_newI C hAf mw_191 (n := 6) (N' := 6) (by decide) (by decide) (Nat.le_of_ble_eq_true rfl) (Nat.le_of_ble_eq_true rfl) (Nat.le_of_ble_eq_true rfl) dX11_init_23 (fun q2 => ?_)
  refine k_ws (ws' := (lo, .inr (11, [.int 0, .int 0, .ref q0, .ref q1, .null, .null, .null, .null, .null, .null, .null, .null, .null, .int 0, .int 0, .null, .null, .null, .int 0, .null, .null, .null, .null, .int 0, .null, .null, .null, .null, .null, .null, .int 0, .null])) :: (q0, aI g 6 (fun _ => 0)) :: (q1, aI g 6 (fun _ => 0)) :: [(q2, aI g 6 (fun _ => 0))]) rfl ?_
  refine k_putF C hnm9 in_X11 tyX11_ok nmX11 (q0 := 0) rfl (show vwCl[11]? = some (RX11, TX11, 32) from rfl) 4 (by decide) mw_1009 (fun _ h => h) rfl rfl (ty := .array .int) (tyX11_ok 4 (by decide)) rfl rfl (Nat.le_of_ble_eq_true rfl) dX11_init_25 ?_
  refine k_ws (ws' := (lo, .inr (11, [.int 0, .int 0, .ref q0, .ref q1, .ref q2, .null, .null, .null, .null, .null, .null, .null, .null, .int 0, .int 0, .null, .null, .null, .int 0, .null, .null, .null, .null, .int 0, .null, .null, .null, .null, .null, .null, .int 0, .null])) :: (q0, aI g 6 (fun _ => 0)) :: (q1, aI g 6 (fun _ => 0)) :: [(q2, aI g 6 (fun _ => 0))]) rfl ?_
  refine j_aload_n C 0 rfl rfl dX11_init_28 ?_
  refine j_bipush (v := 6) C (by decide) dX11_init_29 ?_
  refine k_newI C hAf mw_191 (n := 6) (N' := 6) (by decide) (by decide) (Nat.le_of_ble_eq_true rfl) (Nat.le_of_ble_eq_true rfl) (Nat.le_of_ble_eq_true rfl) dX11_init_31 (fun q3 => ?_)
  refine k_ws (ws' := (lo, .inr (11, [.int 0, .int 0, .ref q0, .ref q1, .ref q2, .null, .null, .null, .null, .null, .null, .null, .null, .int 0, .int 0, .null, .null, .null, .int 0, .null, .null, .null, .null, .int 0, .null, .null, .null, .null, .null, .null, .int 0, .null])) :: (q0, aI g 6 (fun _ => 0)) :: (q1, aI g 6 (fun _ => 0)) :: (q2, aI g 6 (fun _ => 0)) :: [(q3, aI g 6 (fun _ => 0))]) rfl ?_
  refine k_putF C hnm9 in_X11 tyX11_ok nmX11 (q0 := 0) rfl (show vwCl[11]? = some (RX11, TX11, 32) from rfl) 5 (by decide) mw_1010 (fun _ h => h) rfl rfl (ty := .array .int) (tyX11_ok 5 (by decide)) rfl rfl (Nat.le_of_ble_eq_true rfl) dX11_init_33 ?_
  refine k_ws (ws' := (lo, .inr (11, [.int 0, .int 0, .ref q0, .ref q1, .ref q2, .ref q3, .null, .null, .null, .null, .null, .null, .null, .int 0, .int 0, .null, .null, .null, .int 0, .null, .null, .null, .null, .int 0, .null, .null, .null, .null, .null, .null, .int 0, .null])) :: (q0, aI g 6 (fun _ => 0)) :: (q1, aI g 6 (fun _ => 0)) :: (q2, aI g 6 (fun _ => 0)) :: [(q3, aI g 6 (fun _ => 0))]) rfl ?_
  refine j_aload_n C 0 rfl rfl dX11_init_36 ?_
  refine j_bipush (v := 6) C (by decide) dX11_init_37 ?_
  refine k_newZ C hAf mw_190 (n := 6) (N' := 6) (by decide) (by decide) (Nat.le_of_ble_eq_true rfl) (Nat.le_of_ble_eq_true rfl) (Nat.le_of_ble_eq_true rfl) dX11_init_39 (fun q4 => ?_)
  refine k_ws (ws' := (lo, .inr (11, [.int 0, .int 0, .ref q0, .ref q1, .ref q2, .ref q3, .null, .null, .null, .null, .null, .null, .null, .int 0, .int 0, .null, .null, .null, .int 0, .null, .null, .null, .null, .int 0, .null, .null, .null, .null, .null, .null, .int 0, .null])) :: (q0, aI g 6 (fun _ => 0)) :: (q1, aI g 6 (fun _ => 0)) :: (q2, aI g 6 (fun _ => 0)) :: (q3, aI g 6 (fun _ => 0)) :: [(q4, aZ g 6 (fun _ => 0))]) rfl ?_
  refine k_putF C hnm9 in_X11 tyX11_ok nmX11 (q0 := 0) rfl (show vwCl[11]? = some (RX11, TX11, 32) from rfl) 6 (by decide) mw_1011 (fun _ h => h) rfl rfl (ty := .array .boolean) (tyX11_ok 6 (by decide)) rfl rfl (Nat.le_of_ble_eq_true rfl) dX11_init_41 ?_
  refine k_ws (ws' := (lo, .inr (11, [.int 0, .int 0, .ref q0, .ref q1, .ref q2, .ref q3, .ref q4, .null, .null, .null, .null, .null, .null, .int 0, .int 0, .null, .null, .null, .int 0, .null, .null, .null, .null, .int 0, .null, .null, .null, .null, .null, .null, .int 0, .null])) :: (q0, aI g 6 (fun _ => 0)) :: (q1, aI g 6 (fun _ => 0)) :: (q2, aI g 6 (fun _ => 0)) :: (q3, aI g 6 (fun _ => 0)) :: [(q4, aZ g 6 (fun _ => 0))]) rfl ?_
  refine j_aload_n C 0 rfl rfl dX11_init_44 ?_
  refine j_bipush (v := 15) C (by decide) dX11_init_45 ?_
  refine k_newI C hAf mw_191 (n := 15) (N' := 15) (by decide) (by decide) (Nat.le_of_ble_eq_true rfl) (Nat.le_of_ble_eq_true rfl) (Nat.le_of_ble_eq_true rfl) dX11_init_47 (fun q5 => ?_)
  refine k_ws (ws' := (lo, .inr (11, [.int 0, .int 0, .ref q0, .ref q1, .ref q2, .ref q3, .ref q4, .null, .null, .null, .null, .null, .null, .int 0, .int 0, .null, .null, .null, .int 0, .null, .null, .null, .null, .int 0, .null, .null, .null, .null, .null, .null, .int 0, .null])) :: (q0, aI g 6 (fun _ => 0)) :: (q1, aI g 6 (fun _ => 0)) :: (q2, aI g 6 (fun _ => 0)) :: (q3, aI g 6 (fun _ => 0)) :: (q4, aZ g 6 (fun _ => 0)) :: [(q5, aI g 15 (fun _ => 0))]) rfl ?_
  refine k_putF C hnm9 in_X11 tyX11_ok nmX11 (q0 := 0) rfl (show vwCl[11]? = some (RX11, TX11, 32) from rfl) 7 (by decide) mw_1012 (fun _ h => h) rfl rfl (ty := .array .int) (tyX11_ok 7 (by decide)) rfl rfl (Nat.le_of_ble_eq_true rfl) dX11_init_49 ?_
  refine k_ws (ws' := (lo, .inr (11, [.int 0, .int 0, .ref q0, .ref q1, .ref q2, .ref q3, .ref q4, .ref q5, .null, .null, .null, .null, .null, .int 0, .int 0, .null, .null, .null, .int 0, .null, .null, .null, .null, .int 0, .null, .null, .null, .null, .null, .null, .int 0, .null])) :: (q0, aI g 6 (fun _ => 0)) :: (q1, aI g 6 (fun _ => 0)) :: (q2, aI g 6 (fun _ => 0)) :: (q3, aI g 6 (fun _ => 0)) :: (q4, aZ g 6 (fun _ => 0)) :: [(q5, aI g 15 (fun _ => 0))]) rfl ?_
  refine j_aload_n C 0 rfl rfl dX11_init_52 ?_
  refine j_bipush (v := 15) C (by decide) dX11_init_53 ?_
  refine k_newI C hAf mw_191 (n := 15) (N' := 15) (by decide) (by decide) (Nat.le_of_ble_eq_true rfl) (Nat.le_of_ble_eq_true rfl) (Nat.le_of_ble_eq_true rfl) dX11_init_55 (fun q6 => ?_)
  refine k_ws (ws' := (lo, .inr (11, [.int 0, .int 0, .ref q0, .ref q1, .ref q2, .ref q3, .ref q4, .ref q5, .null, .null, .null, .null, .null, .int 0, .int 0, .null, .null, .null, .int 0, .null, .null, .null, .null, .int 0, .null, .null, .null, .null, .null, .null, .int 0, .null])) :: (q0, aI g 6 (fun _ => 0)) :: (q1, aI g 6 (fun _ => 0)) :: (q2, aI g 6 (fun _ => 0)) :: (q3, aI g 6 (fun _ => 0)) :: (q4, aZ g 6 (fun _ => 0)) :: (q5, aI g 15 (fun _ => 0)) :: [(q6, aI g 15 (fun _ => 0))]) rfl ?_
  refine k_putF C hnm9 in_X11 tyX11_ok nmX11 (q0 := 0) rfl (show vwCl[11]? = some (RX11, TX11, 32) from rfl) 8 (by decide) mw_1013 (fun _ h => h) rfl rfl (ty := .array .int) (tyX11_ok 8 (by decide)) rfl rfl (Nat.le_of_ble_eq_true rfl) dX11_init_57 ?_
  refine k_ws (ws' := (lo, .inr (11, [.int 0, .int 0, .ref q0, .ref q1, .ref q2, .ref q3, .ref q4, .ref q5, .ref q6, .null, .null, .null, .null, .int 0, .int 0, .null, .null, .null, .int 0, .null, .null, .null, .null, .int 0, .null, .null, .null, .null, .null, .null, .int 0, .null])) :: (q0, aI g 6 (fun _ => 0)) :: (q1, aI g 6 (fun _ => 0)) :: (q2, aI g 6 (fun _ => 0)) :: (q3, aI g 6 (fun _ => 0)) :: (q4, aZ g 6 (fun _ => 0)) :: (q5, aI g 15 (fun _ => 0)) :: [(q6, aI g 15 (fun _ => 0))]) rfl ?_
  refine j_aload_n C 0 rfl rfl dX11_init_60 ?_
  refine j_bipush (v := 15) C (by decide) dX11_init_61 ?_
  refine k_newI C hAf mw_191 (n := 15) (N' := 15) (by decide) (by decide) (Nat.le_of_ble_eq_true rfl) (Nat.le_of_ble_eq_true rfl) (Nat.le_of_ble_eq_true rfl) dX11_init_63 (fun q7 => ?_)
  refine k_ws (ws' := (lo, .inr (11, [.int 0, .int 0, .ref q0, .ref q1, .ref q2, .ref q3, .ref q4, .ref q5, .ref q6, .null, .null, .null, .null, .int 0, .int 0, .null, .null, .null, .int 0, .null, .null, .null, .null, .int 0, .null, .null, .null, .null, .null, .null, .int 0, .null])) :: (q0, aI g 6 (fun _ => 0)) :: (q1, aI g 6 (fun _ => 0)) :: (q2, aI g 6 (fun _ => 0)) :: (q3, aI g 6 (fun _ => 0)) :: (q4, aZ g 6 (fun _ => 0)) :: (q5, aI g 15 (fun _ => 0)) :: (q6, aI g 15 (fun _ => 0)) :: [(q7, aI g 15 (fun _ => 0))]) rfl ?_
  refine k_putF C hnm9 in_X11 tyX11_ok nmX11 (q0 := 0) rfl (show vwCl[11]? = some (RX11, TX11, 32) from rfl) 9 (by decide) mw_1014 (fun _ h => h) rfl rfl (ty := .array .int) (tyX11_ok 9 (by decide)) rfl rfl (Nat.le_of_ble_eq_true rfl) dX11_init_65 ?_
  refine k_ws (ws' := (lo, .inr (11, [.int 0, .int 0, .ref q0, .ref q1, .ref q2, .ref q3, .ref q4, .ref q5, .ref q6, .ref q7, .null, .null, .null, .int 0, .int 0, .null, .null, .null, .int 0, .null, .null, .null, .null, .int 0, .null, .null, .null, .null, .null, .null, .int 0, .null])) :: (q0, aI g 6 (fun _ => 0)) :: (q1, aI g 6 (fun _ => 0)) :: (q2, aI g 6 (fun _ => 0)) :: (q3, aI g 6 (fun _ => 0)) :: (q4, aZ g 6 (fun _ => 0)) :: (q5, aI g 15 (fun _ => 0)) :: (q6, aI g 15 (fun _ => 0)) :: [(q7, aI g 15 (fun _ => 0))]) rfl ?_
  refine j_aload_n C 0 rfl rfl dX11_init_68 ?_
  refine j_bipush (v := 15) C (by decide) dX11_init_69 ?_
  refine k_newI C hAf mw_191 (n := 15) (N' := 15) (by decide) (by decide) (Nat.le_of_ble_eq_true rfl) (Nat.le_of_ble_eq_true rfl) (Nat.le_of_ble_eq_true rfl) dX11_init_71 (fun q8 => ?_)
  refine k_ws (ws' := (lo, .inr (11, [.int 0, .int 0, .ref q0, .ref q1, .ref q2, .ref q3, .ref q4, .ref q5, .ref q6, .ref q7, .null, .null, .null, .int 0, .int 0, .null, .null, .null, .int 0, .null, .null, .null, .null, .int 0, .null, .null, .null, .null, .null, .null, .int 0, .null])) :: (q0, aI g 6 (fun _ => 0)) :: (q1, aI g 6 (fun _ => 0)) :: (q2, aI g 6 (fun _ => 0)) :: (q3, aI g 6 (fun _ => 0)) :: (q4, aZ g 6 (fun _ => 0)) :: (q5, aI g 15 (fun _ => 0)) :: (q6, aI g 15 (fun _ => 0)) :: (q7, aI g 15 (fun _ => 0)) :: [(q8, aI g 15 (fun _ => 0))]) rfl ?_
  refine k_putF C hnm9 in_X11 tyX11_ok nmX11 (q0 := 0) rfl (show vwCl[11]? = some (RX11, TX11, 32) from rfl) 10 (by decide) mw_1015 (fun _ h => h) rfl rfl (ty := .array .int) (tyX11_ok 10 (by decide)) rfl rfl (Nat.le_of_ble_eq_true rfl) dX11_init_73 ?_
  refine k_ws (ws' := (lo, .inr (11, [.int 0, .int 0, .ref q0, .ref q1, .ref q2, .ref q3, .ref q4, .ref q5, .ref q6, .ref q7, .ref q8, .null, .null, .int 0, .int 0, .null, .null, .null, .int 0, .null, .null, .null, .null, .int 0, .null, .null, .null, .null, .null, .null, .int 0, .null])) :: (q0, aI g 6 (fun _ => 0)) :: (q1, aI g 6 (fun _ => 0)) :: (q2, aI g 6 (fun _ => 0)) :: (q3, aI g 6 (fun _ => 0)) :: (q4, aZ g 6 (fun _ => 0)) :: (q5, aI g 15 (fun _ => 0)) :: (q6, aI g 15 (fun _ => 0)) :: (q7, aI g 15 (fun _ => 0)) :: [(q8, aI g 15 (fun _ => 0))]) rfl ?_
  refine j_aload_n C 0 rfl rfl dX11_init_76 ?_
  refine j_bipush (v := 15) C (by decide) dX11_init_77 ?_
  refine k_newZ C hAf mw_190 (n := 15) (N' := 15) (by decide) (by decide) (Nat.le_of_ble_eq_true rfl) (Nat.le_of_ble_eq_true rfl) (Nat.le_of_ble_eq_true rfl) dX11_init_79 (fun q9 => ?_)
  refine k_ws (ws' := (lo, .inr (11, [.int 0, .int 0, .ref q0, .ref q1, .ref q2, .ref q3, .ref q4, .ref q5, .ref q6, .ref q7, .ref q8, .null, .null, .int 0, .int 0, .null, .null, .null, .int 0, .null, .null, .null, .null, .int 0, .null, .null, .null, .null, .null, .null, .int 0, .null])) :: (q0, aI g 6 (fun _ => 0)) :: (q1, aI g 6 (fun _ => 0)) :: (q2, aI g 6 (fun _ => 0)) :: (q3, aI g 6 (fun _ => 0)) :: (q4, aZ g 6 (fun _ => 0)) :: (q5, aI g 15 (fun _ => 0)) :: (q6, aI g 15 (fun _ => 0)) :: (q7, aI g 15 (fun _ => 0)) :: (q8, aI g 15 (fun _ => 0)) :: [(q9, aZ g 15 (fun _ => 0))]) rfl ?_
  refine k_putF C hnm9 in_X11 tyX11_ok nmX11 (q0 := 0) rfl (show vwCl[11]? = some (RX11, TX11, 32) from rfl) 11 (by decide) mw_1016 (fun _ h => h) rfl rfl (ty := .array .boolean) (tyX11_ok 11 (by decide)) rfl rfl (Nat.le_of_ble_eq_true rfl) dX11_init_81 ?_
  refine k_ws (ws' := (lo, .inr (11, [.int 0, .int 0, .ref q0, .ref q1, .ref q2, .ref q3, .ref q4, .ref q5, .ref q6, .ref q7, .ref q8, .ref q9, .null, .int 0, .int 0, .null, .null, .null, .int 0, .null, .null, .null, .null, .int 0, .null, .null, .null, .null, .null, .null, .int 0, .null])) :: (q0, aI g 6 (fun _ => 0)) :: (q1, aI g 6 (fun _ => 0)) :: (q2, aI g 6 (fun _ => 0)) :: (q3, aI g 6 (fun _ => 0)) :: (q4, aZ g 6 (fun _ => 0)) :: (q5, aI g 15 (fun _ => 0)) :: (q6, aI g 15 (fun _ => 0)) :: (q7, aI g 15 (fun _ => 0)) :: (q8, aI g 15 (fun _ => 0)) :: [(q9, aZ g 15 (fun _ => 0))]) rfl ?_
  refine j_aload_n C 0 rfl rfl dX11_init_84 ?_
  refine j_sipush (v := 256) C (by decide) dX11_init_85 ?_
  refine k_newL C hAf mw_189 (n := 256) (N' := 256) (by decide) (by decide) (Nat.le_of_ble_eq_true rfl) (Nat.le_of_ble_eq_true rfl) (Nat.le_of_ble_eq_true rfl) dX11_init_88 (fun q10 => ?_)
  refine k_ws (ws' := (lo, .inr (11, [.int 0, .int 0, .ref q0, .ref q1, .ref q2, .ref q3, .ref q4, .ref q5, .ref q6, .ref q7, .ref q8, .ref q9, .null, .int 0, .int 0, .null, .null, .null, .int 0, .null, .null, .null, .null, .int 0, .null, .null, .null, .null, .null, .null, .int 0, .null])) :: (q0, aI g 6 (fun _ => 0)) :: (q1, aI g 6 (fun _ => 0)) :: (q2, aI g 6 (fun _ => 0)) :: (q3, aI g 6 (fun _ => 0)) :: (q4, aZ g 6 (fun _ => 0)) :: (q5, aI g 15 (fun _ => 0)) :: (q6, aI g 15 (fun _ => 0)) :: (q7, aI g 15 (fun _ => 0)) :: (q8, aI g 15 (fun _ => 0)) :: (q9, aZ g 15 (fun _ => 0)) :: [(q10, aL g 256 (fun _ => 0))]) rfl ?_
  refine k_putF C hnm9 in_X11 tyX11_ok nmX11 (q0 := 0) rfl (show vwCl[11]? = some (RX11, TX11, 32) from rfl) 12 (by decide) mw_1017 (fun _ h => h) rfl rfl (ty := .array .long) (tyX11_ok 12 (by decide)) rfl rfl (Nat.le_of_ble_eq_true rfl) dX11_init_90 ?_
  refine k_ws (ws' := (lo, .inr (11, [.int 0, .int 0, .ref q0, .ref q1, .ref q2, .ref q3, .ref q4, .ref q5, .ref q6, .ref q7, .ref q8, .ref q9, .ref q10, .int 0, .int 0, .null, .null, .null, .int 0, .null, .null, .null, .null, .int 0, .null, .null, .null, .null, .null, .null, .int 0, .null])) :: (q0, aI g 6 (fun _ => 0)) :: (q1, aI g 6 (fun _ => 0)) :: (q2, aI g 6 (fun _ => 0)) :: (q3, aI g 6 (fun _ => 0)) :: (q4, aZ g 6 (fun _ => 0)) :: (q5, aI g 15 (fun _ => 0)) :: (q6, aI g 15 (fun _ => 0)) :: (q7, aI g 15 (fun _ => 0)) :: (q8, aI g 15 (fun _ => 0)) :: (q9, aZ g 15 (fun _ => 0)) :: [(q10, aL g 256 (fun _ => 0))]) rfl ?_
  refine j_aload_n C 0 rfl rfl dX11_init_93 ?_
  refine j_bipush (v := 16) C (by decide) dX11_init_94 ?_
  refine k_newI C hAf mw_191 (n := 16) (N' := 16) (by decide) (by decide) (Nat.le_of_ble_eq_true rfl) (Nat.le_of_ble_eq_true rfl) (Nat.le_of_ble_eq_true rfl) dX11_init_96 (fun q11 => ?_)
  refine k_ws (ws' := (lo, .inr (11, [.int 0, .int 0, .ref q0, .ref q1, .ref q2, .ref q3, .ref q4, .ref q5, .ref q6, .ref q7, .ref q8, .ref q9, .ref q10, .int 0, .int 0, .null, .null, .null, .int 0, .null, .null, .null, .null, .int 0, .null, .null, .null, .null, .null, .null, .int 0, .null])) :: (q0, aI g 6 (fun _ => 0)) :: (q1, aI g 6 (fun _ => 0)) :: (q2, aI g 6 (fun _ => 0)) :: (q3, aI g 6 (fun _ => 0)) :: (q4, aZ g 6 (fun _ => 0)) :: (q5, aI g 15 (fun _ => 0)) :: (q6, aI g 15 (fun _ => 0)) :: (q7, aI g 15 (fun _ => 0)) :: (q8, aI g 15 (fun _ => 0)) :: (q9, aZ g 15 (fun _ => 0)) :: (q10, aL g 256 (fun _ => 0)) :: [(q11, aI g 16 (fun _ => 0))]) rfl ?_
  refine k_putF C hnm9 in_X11 tyX11_ok nmX11 (q0 := 0) rfl (show vwCl[11]? = some (RX11, TX11, 32) from rfl) 15 (by decide) mw_1020 (fun _ h => h) rfl rfl (ty := .array .int) (tyX11_ok 15 (by decide)) rfl rfl (Nat.le_of_ble_eq_true rfl) dX11_init_98 ?_
  refine k_ws (ws' := (lo, .inr (11, [.int 0, .int 0, .ref q0, .ref q1, .ref q2, .ref q3, .ref q4, .ref q5, .ref q6, .ref q7, .ref q8, .ref q9, .ref q10, .int 0, .int 0, .ref q11, .null, .null, .int 0, .null, .null, .null, .null, .int 0, .null, .null, .null, .null, .null, .null, .int 0, .null])) :: (q0, aI g 6 (fun _ => 0)) :: (q1, aI g 6 (fun _ => 0)) :: (q2, aI g 6 (fun _ => 0)) :: (q3, aI g 6 (fun _ => 0)) :: (q4, aZ g 6 (fun _ => 0)) :: (q5, aI g 15 (fun _ => 0)) :: (q6, aI g 15 (fun _ => 0)) :: (q7, aI g 15 (fun _ => 0)) :: (q8, aI g 15 (fun _ => 0)) :: (q9, aZ g 15 (fun _ => 0)) :: (q10, aL g 256 (fun _ => 0)) :: [(q11, aI g 16 (fun _ => 0))]) rfl ?_
  refine j_aload_n C 0 rfl rfl dX11_init_101 ?_
  refine j_bipush (v := 16) C (by decide) dX11_init_102 ?_
  refine k_newL C hAf mw_189 (n := 16) (N' := 16) (by decide) (by decide) (Nat.le_of_ble_eq_true rfl) (Nat.le_of_ble_eq_true rfl) (Nat.le_of_ble_eq_true rfl) dX11_init_104 (fun q12 => ?_)
  refine k_ws (ws' := (lo, .inr (11, [.int 0, .int 0, .ref q0, .ref q1, .ref q2, .ref q3, .ref q4, .ref q5, .ref q6, .ref q7, .ref q8, .ref q9, .ref q10, .int 0, .int 0, .ref q11, .null, .null, .int 0, .null, .null, .null, .null, .int 0, .null, .null, .null, .null, .null, .null, .int 0, .null])) :: (q0, aI g 6 (fun _ => 0)) :: (q1, aI g 6 (fun _ => 0)) :: (q2, aI g 6 (fun _ => 0)) :: (q3, aI g 6 (fun _ => 0)) :: (q4, aZ g 6 (fun _ => 0)) :: (q5, aI g 15 (fun _ => 0)) :: (q6, aI g 15 (fun _ => 0)) :: (q7, aI g 15 (fun _ => 0)) :: (q8, aI g 15 (fun _ => 0)) :: (q9, aZ g 15 (fun _ => 0)) :: (q10, aL g 256 (fun _ => 0)) :: (q11, aI g 16 (fun _ => 0)) :: [(q12, aL g 16 (fun _ => 0))]) rfl ?_
  refine k_putF C hnm9 in_X11 tyX11_ok nmX11 (q0 := 0) rfl (show vwCl[11]? = some (RX11, TX11, 32) from rfl) 16 (by decide) mw_1021 (fun _ h => h) rfl rfl (ty := .array .long) (tyX11_ok 16 (by decide)) rfl rfl (Nat.le_of_ble_eq_true rfl) dX11_init_106 ?_
  refine k_ws (ws' := (lo, .inr (11, [.int 0, .int 0, .ref q0, .ref q1, .ref q2, .ref q3, .ref q4, .ref q5, .ref q6, .ref q7, .ref q8, .ref q9, .ref q10, .int 0, .int 0, .ref q11, .ref q12, .null, .int 0, .null, .null, .null, .null, .int 0, .null, .null, .null, .null, .null, .null, .int 0, .null])) :: (q0, aI g 6 (fun _ => 0)) :: (q1, aI g 6 (fun _ => 0)) :: (q2, aI g 6 (fun _ => 0)) :: (q3, aI g 6 (fun _ => 0)) :: (q4, aZ g 6 (fun _ => 0)) :: (q5, aI g 15 (fun _ => 0)) :: (q6, aI g 15 (fun _ => 0)) :: (q7, aI g 15 (fun _ => 0)) :: (q8, aI g 15 (fun _ => 0)) :: (q9, aZ g 15 (fun _ => 0)) :: (q10, aL g 256 (fun _ => 0)) :: (q11, aI g 16 (fun _ => 0)) :: [(q12, aL g 16 (fun _ => 0))]) rfl ?_
  refine j_aload_n C 0 rfl rfl dX11_init_109 ?_
  refine j_bipush (v := 15) C (by decide) dX11_init_110 ?_
  refine k_newI C hAf mw_191 (n := 15) (N' := 15) (by decide) (by decide) (Nat.le_of_ble_eq_true rfl) (Nat.le_of_ble_eq_true rfl) (Nat.le_of_ble_eq_true rfl) dX11_init_112 (fun q13 => ?_)
  refine k_ws (ws' := (lo, .inr (11, [.int 0, .int 0, .ref q0, .ref q1, .ref q2, .ref q3, .ref q4, .ref q5, .ref q6, .ref q7, .ref q8, .ref q9, .ref q10, .int 0, .int 0, .ref q11, .ref q12, .null, .int 0, .null, .null, .null, .null, .int 0, .null, .null, .null, .null, .null, .null, .int 0, .null])) :: (q0, aI g 6 (fun _ => 0)) :: (q1, aI g 6 (fun _ => 0)) :: (q2, aI g 6 (fun _ => 0)) :: (q3, aI g 6 (fun _ => 0)) :: (q4, aZ g 6 (fun _ => 0)) :: (q5, aI g 15 (fun _ => 0)) :: (q6, aI g 15 (fun _ => 0)) :: (q7, aI g 15 (fun _ => 0)) :: (q8, aI g 15 (fun _ => 0)) :: (q9, aZ g 15 (fun _ => 0)) :: (q10, aL g 256 (fun _ => 0)) :: (q11, aI g 16 (fun _ => 0)) :: (q12, aL g 16 (fun _ => 0)) :: [(q13, aI g 15 (fun _ => 0))]) rfl ?_
  refine k_putF C hnm9 in_X11 tyX11_ok nmX11 (q0 := 0) rfl (show vwCl[11]? = some (RX11, TX11, 32) from rfl) 17 (by decide) mw_1022 (fun _ h => h) rfl rfl (ty := .array .int) (tyX11_ok 17 (by decide)) rfl rfl (Nat.le_of_ble_eq_true rfl) dX11_init_114 ?_
  refine k_ws (ws' := (lo, .inr (11, [.int 0, .int 0, .ref q0, .ref q1, .ref q2, .ref q3, .ref q4, .ref q5, .ref q6, .ref q7, .ref q8, .ref q9, .ref q10, .int 0, .int 0, .ref q11, .ref q12, .ref q13, .int 0, .null, .null, .null, .null, .int 0, .null, .null, .null, .null, .null, .null, .int 0, .null])) :: (q0, aI g 6 (fun _ => 0)) :: (q1, aI g 6 (fun _ => 0)) :: (q2, aI g 6 (fun _ => 0)) :: (q3, aI g 6 (fun _ => 0)) :: (q4, aZ g 6 (fun _ => 0)) :: (q5, aI g 15 (fun _ => 0)) :: (q6, aI g 15 (fun _ => 0)) :: (q7, aI g 15 (fun _ => 0)) :: (q8, aI g 15 (fun _ => 0)) :: (q9, aZ g 15 (fun _ => 0)) :: (q10, aL g 256 (fun _ => 0)) :: (q11, aI g 16 (fun _ => 0)) :: (q12, aL g 16 (fun _ => 0)) :: [(q13, aI g 15 (fun _ => 0))]) rfl ?_
  refine j_aload_n C 0 rfl rfl dX11_init_117 ?_
  refine j_bipush (v := 64) C (by decide) dX11_init_118 ?_
  refine k_newI C hAf mw_191 (n := 64) (N' := 64) (by decide) (by decide) (Nat.le_of_ble_eq_true rfl) (Nat.le_of_ble_eq_true rfl) (Nat.le_of_ble_eq_true rfl) dX11_init_120 (fun q14 => ?_)
  refine k_ws (ws' := (lo, .inr (11, [.int 0, .int 0, .ref q0, .ref q1, .ref q2, .ref q3, .ref q4, .ref q5, .ref q6, .ref q7, .ref q8, .ref q9, .ref q10, .int 0, .int 0, .ref q11, .ref q12, .ref q13, .int 0, .null, .null, .null, .null, .int 0, .null, .null, .null, .null, .null, .null, .int 0, .null])) :: (q0, aI g 6 (fun _ => 0)) :: (q1, aI g 6 (fun _ => 0)) :: (q2, aI g 6 (fun _ => 0)) :: (q3, aI g 6 (fun _ => 0)) :: (q4, aZ g 6 (fun _ => 0)) :: (q5, aI g 15 (fun _ => 0)) :: (q6, aI g 15 (fun _ => 0)) :: (q7, aI g 15 (fun _ => 0)) :: (q8, aI g 15 (fun _ => 0)) :: (q9, aZ g 15 (fun _ => 0)) :: (q10, aL g 256 (fun _ => 0)) :: (q11, aI g 16 (fun _ => 0)) :: (q12, aL g 16 (fun _ => 0)) :: (q13, aI g 15 (fun _ => 0)) :: [(q14, aI g 64 (fun _ => 0))]) rfl ?_
  refine k_putF C hnm9 in_X11 tyX11_ok nmX11 (q0 := 0) rfl (show vwCl[11]? = some (RX11, TX11, 32) from rfl) 19 (by decide) mw_1024 (fun _ h => h) rfl rfl (ty := .array .int) (tyX11_ok 19 (by decide)) rfl rfl (Nat.le_of_ble_eq_true rfl) dX11_init_122 ?_
  refine k_ws (ws' := (lo, .inr (11, [.int 0, .int 0, .ref q0, .ref q1, .ref q2, .ref q3, .ref q4, .ref q5, .ref q6, .ref q7, .ref q8, .ref q9, .ref q10, .int 0, .int 0, .ref q11, .ref q12, .ref q13, .int 0, .ref q14, .null, .null, .null, .int 0, .null, .null, .null, .null, .null, .null, .int 0, .null])) :: (q0, aI g 6 (fun _ => 0)) :: (q1, aI g 6 (fun _ => 0)) :: (q2, aI g 6 (fun _ => 0)) :: (q3, aI g 6 (fun _ => 0)) :: (q4, aZ g 6 (fun _ => 0)) :: (q5, aI g 15 (fun _ => 0)) :: (q6, aI g 15 (fun _ => 0)) :: (q7, aI g 15 (fun _ => 0)) :: (q8, aI g 15 (fun _ => 0)) :: (q9, aZ g 15 (fun _ => 0)) :: (q10, aL g 256 (fun _ => 0)) :: (q11, aI g 16 (fun _ => 0)) :: (q12, aL g 16 (fun _ => 0)) :: (q13, aI g 15 (fun _ => 0)) :: [(q14, aI g 64 (fun _ => 0))]) rfl ?_
  refine j_aload_n C 0 rfl rfl dX11_init_125 ?_
  refine j_bipush (v := 15) C (by decide) dX11_init_126 ?_
  refine k_newZ C hAf mw_190 (n := 15) (N' := 15) (by decide) (by decide) (Nat.le_of_ble_eq_true rfl) (Nat.le_of_ble_eq_true rfl) (Nat.le_of_ble_eq_true rfl) dX11_init_128 (fun q15 => ?_)
  refine k_ws (ws' := (lo, .inr (11, [.int 0, .int 0, .ref q0, .ref q1, .ref q2, .ref q3, .ref q4, .ref q5, .ref q6, .ref q7, .ref q8, .ref q9, .ref q10, .int 0, .int 0, .ref q11, .ref q12, .ref q13, .int 0, .ref q14, .null, .null, .null, .int 0, .null, .null, .null, .null, .null, .null, .int 0, .null])) :: (q0, aI g 6 (fun _ => 0)) :: (q1, aI g 6 (fun _ => 0)) :: (q2, aI g 6 (fun _ => 0)) :: (q3, aI g 6 (fun _ => 0)) :: (q4, aZ g 6 (fun _ => 0)) :: (q5, aI g 15 (fun _ => 0)) :: (q6, aI g 15 (fun _ => 0)) :: (q7, aI g 15 (fun _ => 0)) :: (q8, aI g 15 (fun _ => 0)) :: (q9, aZ g 15 (fun _ => 0)) :: (q10, aL g 256 (fun _ => 0)) :: (q11, aI g 16 (fun _ => 0)) :: (q12, aL g 16 (fun _ => 0)) :: (q13, aI g 15 (fun _ => 0)) :: (q14, aI g 64 (fun _ => 0)) :: [(q15, aZ g 15 (fun _ => 0))]) rfl ?_
  refine k_putF C hnm9 in_X11 tyX11_ok nmX11 (q0 := 0) rfl (show vwCl[11]? = some (RX11, TX11, 32) from rfl) 20 (by decide) mw_1025 (fun _ h => h) rfl rfl (ty := .array .boolean) (tyX11_ok 20 (by decide)) rfl rfl (Nat.le_of_ble_eq_true rfl) dX11_init_130 ?_
  refine k_ws (ws' := (lo, .inr (11, [.int 0, .int 0, .ref q0, .ref q1, .ref q2, .ref q3, .ref q4, .ref q5, .ref q6, .ref q7, .ref q8, .ref q9, .ref q10, .int 0, .int 0, .ref q11, .ref q12, .ref q13, .int 0, .ref q14, .ref q15, .null, .null, .int 0, .null, .null, .null, .null, .null, .null, .int 0, .null])) :: (q0, aI g 6 (fun _ => 0)) :: (q1, aI g 6 (fun _ => 0)) :: (q2, aI g 6 (fun _ => 0)) :: (q3, aI g 6 (fun _ => 0)) :: (q4, aZ g 6 (fun _ => 0)) :: (q5, aI g 15 (fun _ => 0)) :: (q6, aI g 15 (fun _ => 0)) :: (q7, aI g 15 (fun _ => 0)) :: (q8, aI g 15 (fun _ => 0)) :: (q9, aZ g 15 (fun _ => 0)) :: (q10, aL g 256 (fun _ => 0)) :: (q11, aI g 16 (fun _ => 0)) :: (q12, aL g 16 (fun _ => 0)) :: (q13, aI g 15 (fun _ => 0)) :: (q14, aI g 64 (fun _ => 0)) :: [(q15, aZ g 15 (fun _ => 0))]) rfl ?_
  refine j_aload_n C 0 rfl rfl dX11_init_133 ?_
  refine j_bipush (v := 15) C (by decide) dX11_init_134 ?_
  refine k_newZ C hAf mw_190 (n := 15) (N' := 15) (by decide) (by decide) (Nat.le_of_ble_eq_true rfl) (Nat.le_of_ble_eq_true rfl) (Nat.le_of_ble_eq_true rfl) dX11_init_136 (fun q16 => ?_)
  refine k_ws (ws' := (lo, .inr (11, [.int 0, .int 0, .ref q0, .ref q1, .ref q2, .ref q3, .ref q4, .ref q5, .ref q6, .ref q7, .ref q8, .ref q9, .ref q10, .int 0, .int 0, .ref q11, .ref q12, .ref q13, .int 0, .ref q14, .ref q15, .null, .null, .int 0, .null, .null, .null, .null, .null, .null, .int 0, .null])) :: (q0, aI g 6 (fun _ => 0)) :: (q1, aI g 6 (fun _ => 0)) :: (q2, aI g 6 (fun _ => 0)) :: (q3, aI g 6 (fun _ => 0)) :: (q4, aZ g 6 (fun _ => 0)) :: (q5, aI g 15 (fun _ => 0)) :: (q6, aI g 15 (fun _ => 0)) :: (q7, aI g 15 (fun _ => 0)) :: (q8, aI g 15 (fun _ => 0)) :: (q9, aZ g 15 (fun _ => 0)) :: (q10, aL g 256 (fun _ => 0)) :: (q11, aI g 16 (fun _ => 0)) :: (q12, aL g 16 (fun _ => 0)) :: (q13, aI g 15 (fun _ => 0)) :: (q14, aI g 64 (fun _ => 0)) :: (q15, aZ g 15 (fun _ => 0)) :: [(q16, aZ g 15 (fun _ => 0))]) rfl ?_
  refine k_putF C hnm9 in_X11 tyX11_ok nmX11 (q0 := 0) rfl (show vwCl[11]? = some (RX11, TX11, 32) from rfl) 21 (by decide) mw_1026 (fun _ h => h) rfl rfl (ty := .array .boolean) (tyX11_ok 21 (by decide)) rfl rfl (Nat.le_of_ble_eq_true rfl) dX11_init_138 ?_
  refine k_ws (ws' := (lo, .inr (11, [.int 0, .int 0, .ref q0, .ref q1, .ref q2, .ref q3, .ref q4, .ref q5, .ref q6, .ref q7, .ref q8, .ref q9, .ref q10, .int 0, .int 0, .ref q11, .ref q12, .ref q13, .int 0, .ref q14, .ref q15, .ref q16, .null, .int 0, .null, .null, .null, .null, .null, .null, .int 0, .null])) :: (q0, aI g 6 (fun _ => 0)) :: (q1, aI g 6 (fun _ => 0)) :: (q2, aI g 6 (fun _ => 0)) :: (q3, aI g 6 (fun _ => 0)) :: (q4, aZ g 6 (fun _ => 0)) :: (q5, aI g 15 (fun _ => 0)) :: (q6, aI g 15 (fun _ => 0)) :: (q7, aI g 15 (fun _ => 0)) :: (q8, aI g 15 (fun _ => 0)) :: (q9, aZ g 15 (fun _ => 0)) :: (q10, aL g 256 (fun _ => 0)) :: (q11, aI g 16 (fun _ => 0)) :: (q12, aL g 16 (fun _ => 0)) :: (q13, aI g 15 (fun _ => 0)) :: (q14, aI g 64 (fun _ => 0)) :: (q15, aZ g 15 (fun _ => 0)) :: [(q16, aZ g 15 (fun _ => 0))]) rfl ?_
  refine j_aload_n C 0 rfl rfl dX11_init_141 ?_
  refine j_bipush (v := 15) C (by decide) dX11_init_142 ?_
  refine k_newZ C hAf mw_190 (n := 15) (N' := 15) (by decide) (by decide) (Nat.le_of_ble_eq_true rfl) (Nat.le_of_ble_eq_true rfl) (Nat.le_of_ble_eq_true rfl) dX11_init_144 (fun q17 => ?_)
  refine k_ws (ws' := (lo, .inr (11, [.int 0, .int 0, .ref q0, .ref q1, .ref q2, .ref q3, .ref q4, .ref q5, .ref q6, .ref q7, .ref q8, .ref q9, .ref q10, .int 0, .int 0, .ref q11, .ref q12, .ref q13, .int 0, .ref q14, .ref q15, .ref q16, .null, .int 0, .null, .null, .null, .null, .null, .null, .int 0, .null])) :: (q0, aI g 6 (fun _ => 0)) :: (q1, aI g 6 (fun _ => 0)) :: (q2, aI g 6 (fun _ => 0)) :: (q3, aI g 6 (fun _ => 0)) :: (q4, aZ g 6 (fun _ => 0)) :: (q5, aI g 15 (fun _ => 0)) :: (q6, aI g 15 (fun _ => 0)) :: (q7, aI g 15 (fun _ => 0)) :: (q8, aI g 15 (fun _ => 0)) :: (q9, aZ g 15 (fun _ => 0)) :: (q10, aL g 256 (fun _ => 0)) :: (q11, aI g 16 (fun _ => 0)) :: (q12, aL g 16 (fun _ => 0)) :: (q13, aI g 15 (fun _ => 0)) :: (q14, aI g 64 (fun _ => 0)) :: (q15, aZ g 15 (fun _ => 0)) :: (q16, aZ g 15 (fun _ => 0)) :: [(q17, aZ g 15 (fun _ => 0))]) rfl ?_
  refine k_putF C hnm9 in_X11 tyX11_ok nmX11 (q0 := 0) rfl (show vwCl[11]? = some (RX11, TX11, 32) from rfl) 22 (by decide) mw_1027 (fun _ h => h) rfl rfl (ty := .array .boolean) (tyX11_ok 22 (by decide)) rfl rfl (Nat.le_of_ble_eq_true rfl) dX11_init_146 ?_
  refine k_ws (ws' := (lo, .inr (11, [.int 0, .int 0, .ref q0, .ref q1, .ref q2, .ref q3, .ref q4, .ref q5, .ref q6, .ref q7, .ref q8, .ref q9, .ref q10, .int 0, .int 0, .ref q11, .ref q12, .ref q13, .int 0, .ref q14, .ref q15, .ref q16, .ref q17, .int 0, .null, .null, .null, .null, .null, .null, .int 0, .null])) :: (q0, aI g 6 (fun _ => 0)) :: (q1, aI g 6 (fun _ => 0)) :: (q2, aI g 6 (fun _ => 0)) :: (q3, aI g 6 (fun _ => 0)) :: (q4, aZ g 6 (fun _ => 0)) :: (q5, aI g 15 (fun _ => 0)) :: (q6, aI g 15 (fun _ => 0)) :: (q7, aI g 15 (fun _ => 0)) :: (q8, aI g 15 (fun _ => 0)) :: (q9, aZ g 15 (fun _ => 0)) :: (q10, aL g 256 (fun _ => 0)) :: (q11, aI g 16 (fun _ => 0)) :: (q12, aL g 16 (fun _ => 0)) :: (q13, aI g 15 (fun _ => 0)) :: (q14, aI g 64 (fun _ => 0)) :: (q15, aZ g 15 (fun _ => 0)) :: (q16, aZ g 15 (fun _ => 0)) :: [(q17, aZ g 15 (fun _ => 0))]) rfl ?_
  refine j_aload_n C 0 rfl rfl dX11_init_149 ?_
  refine j_bipush (v := 15) C (by decide) dX11_init_150 ?_
  refine k_newI C hAf mw_191 (n := 15) (N' := 15) (by decide) (by decide) (Nat.le_of_ble_eq_true rfl) (Nat.le_of_ble_eq_true rfl) (Nat.le_of_ble_eq_true rfl) dX11_init_152 (fun q18 => ?_)
  refine k_ws (ws' := (lo, .inr (11, [.int 0, .int 0, .ref q0, .ref q1, .ref q2, .ref q3, .ref q4, .ref q5, .ref q6, .ref q7, .ref q8, .ref q9, .ref q10, .int 0, .int 0, .ref q11, .ref q12, .ref q13, .int 0, .ref q14, .ref q15, .ref q16, .ref q17, .int 0, .null, .null, .null, .null, .null, .null, .int 0, .null])) :: (q0, aI g 6 (fun _ => 0)) :: (q1, aI g 6 (fun _ => 0)) :: (q2, aI g 6 (fun _ => 0)) :: (q3, aI g 6 (fun _ => 0)) :: (q4, aZ g 6 (fun _ => 0)) :: (q5, aI g 15 (fun _ => 0)) :: (q6, aI g 15 (fun _ => 0)) :: (q7, aI g 15 (fun _ => 0)) :: (q8, aI g 15 (fun _ => 0)) :: (q9, aZ g 15 (fun _ => 0)) :: (q10, aL g 256 (fun _ => 0)) :: (q11, aI g 16 (fun _ => 0)) :: (q12, aL g 16 (fun _ => 0)) :: (q13, aI g 15 (fun _ => 0)) :: (q14, aI g 64 (fun _ => 0)) :: (q15, aZ g 15 (fun _ => 0)) :: (q16, aZ g 15 (fun _ => 0)) :: (q17, aZ g 15 (fun _ => 0)) :: [(q18, aI g 15 (fun _ => 0))]) rfl ?_
  refine k_putF C hnm9 in_X11 tyX11_ok nmX11 (q0 := 0) rfl (show vwCl[11]? = some (RX11, TX11, 32) from rfl) 24 (by decide) mw_1029 (fun _ h => h) rfl rfl (ty := .array .int) (tyX11_ok 24 (by decide)) rfl rfl (Nat.le_of_ble_eq_true rfl) dX11_init_154 ?_
  refine k_ws (ws' := (lo, .inr (11, [.int 0, .int 0, .ref q0, .ref q1, .ref q2, .ref q3, .ref q4, .ref q5, .ref q6, .ref q7, .ref q8, .ref q9, .ref q10, .int 0, .int 0, .ref q11, .ref q12, .ref q13, .int 0, .ref q14, .ref q15, .ref q16, .ref q17, .int 0, .ref q18, .null, .null, .null, .null, .null, .int 0, .null])) :: (q0, aI g 6 (fun _ => 0)) :: (q1, aI g 6 (fun _ => 0)) :: (q2, aI g 6 (fun _ => 0)) :: (q3, aI g 6 (fun _ => 0)) :: (q4, aZ g 6 (fun _ => 0)) :: (q5, aI g 15 (fun _ => 0)) :: (q6, aI g 15 (fun _ => 0)) :: (q7, aI g 15 (fun _ => 0)) :: (q8, aI g 15 (fun _ => 0)) :: (q9, aZ g 15 (fun _ => 0)) :: (q10, aL g 256 (fun _ => 0)) :: (q11, aI g 16 (fun _ => 0)) :: (q12, aL g 16 (fun _ => 0)) :: (q13, aI g 15 (fun _ => 0)) :: (q14, aI g 64 (fun _ => 0)) :: (q15, aZ g 15 (fun _ => 0)) :: (q16, aZ g 15 (fun _ => 0)) :: (q17, aZ g 15 (fun _ => 0)) :: [(q18, aI g 15 (fun _ => 0))]) rfl ?_
  refine j_aload_n C 0 rfl rfl dX11_init_157 ?_
  refine j_bipush (v := 6) C (by decide) dX11_init_158 ?_
  refine k_newI C hAf mw_191 (n := 6) (N' := 6) (by decide) (by decide) (Nat.le_of_ble_eq_true rfl) (Nat.le_of_ble_eq_true rfl) (Nat.le_of_ble_eq_true rfl) dX11_init_160 (fun q19 => ?_)
  refine k_ws (ws' := (lo, .inr (11, [.int 0, .int 0, .ref q0, .ref q1, .ref q2, .ref q3, .ref q4, .ref q5, .ref q6, .ref q7, .ref q8, .ref q9, .ref q10, .int 0, .int 0, .ref q11, .ref q12, .ref q13, .int 0, .ref q14, .ref q15, .ref q16, .ref q17, .int 0, .ref q18, .null, .null, .null, .null, .null, .int 0, .null])) :: (q0, aI g 6 (fun _ => 0)) :: (q1, aI g 6 (fun _ => 0)) :: (q2, aI g 6 (fun _ => 0)) :: (q3, aI g 6 (fun _ => 0)) :: (q4, aZ g 6 (fun _ => 0)) :: (q5, aI g 15 (fun _ => 0)) :: (q6, aI g 15 (fun _ => 0)) :: (q7, aI g 15 (fun _ => 0)) :: (q8, aI g 15 (fun _ => 0)) :: (q9, aZ g 15 (fun _ => 0)) :: (q10, aL g 256 (fun _ => 0)) :: (q11, aI g 16 (fun _ => 0)) :: (q12, aL g 16 (fun _ => 0)) :: (q13, aI g 15 (fun _ => 0)) :: (q14, aI g 64 (fun _ => 0)) :: (q15, aZ g 15 (fun _ => 0)) :: (q16, aZ g 15 (fun _ => 0)) :: (q17, aZ g 15 (fun _ => 0)) :: (q18, aI g 15 (fun _ => 0)) :: [(q19, aI g 6 (fun _ => 0))]) rfl ?_
  refine k_putF C hnm9 in_X11 tyX11_ok nmX11 (q0 := 0) rfl (show vwCl[11]? = some (RX11, TX11, 32) from rfl) 25 (by decide) mw_1030 (fun _ h => h) rfl rfl (ty := .array .int) (tyX11_ok 25 (by decide)) rfl rfl (Nat.le_of_ble_eq_true rfl) dX11_init_162 ?_
  refine k_ws (ws' := (lo, .inr (11, [.int 0, .int 0, .ref q0, .ref q1, .ref q2, .ref q3, .ref q4, .ref q5, .ref q6, .ref q7, .ref q8, .ref q9, .ref q10, .int 0, .int 0, .ref q11, .ref q12, .ref q13, .int 0, .ref q14, .ref q15, .ref q16, .ref q17, .int 0, .ref q18, .ref q19, .null, .null, .null, .null, .int 0, .null])) :: (q0, aI g 6 (fun _ => 0)) :: (q1, aI g 6 (fun _ => 0)) :: (q2, aI g 6 (fun _ => 0)) :: (q3, aI g 6 (fun _ => 0)) :: (q4, aZ g 6 (fun _ => 0)) :: (q5, aI g 15 (fun _ => 0)) :: (q6, aI g 15 (fun _ => 0)) :: (q7, aI g 15 (fun _ => 0)) :: (q8, aI g 15 (fun _ => 0)) :: (q9, aZ g 15 (fun _ => 0)) :: (q10, aL g 256 (fun _ => 0)) :: (q11, aI g 16 (fun _ => 0)) :: (q12, aL g 16 (fun _ => 0)) :: (q13, aI g 15 (fun _ => 0)) :: (q14, aI g 64 (fun _ => 0)) :: (q15, aZ g 15 (fun _ => 0)) :: (q16, aZ g 15 (fun _ => 0)) :: (q17, aZ g 15 (fun _ => 0)) :: (q18, aI g 15 (fun _ => 0)) :: [(q19, aI g 6 (fun _ => 0))]) rfl ?_
  refine j_aload_n C 0 rfl rfl dX11_init_165 ?_
  refine j_bipush (v := 6) C (by decide) dX11_init_166 ?_
  refine k_newI C hAf mw_191 (n := 6) (N' := 6) (by decide) (by decide) (Nat.le_of_ble_eq_true rfl) (Nat.le_of_ble_eq_true rfl) (Nat.le_of_ble_eq_true rfl) dX11_init_168 (fun q20 => ?_)
  refine k_ws (ws' := (lo, .inr (11, [.int 0, .int 0, .ref q0, .ref q1, .ref q2, .ref q3, .ref q4, .ref q5, .ref q6, .ref q7, .ref q8, .ref q9, .ref q10, .int 0, .int 0, .ref q11, .ref q12, .ref q13, .int 0, .ref q14, .ref q15, .ref q16, .ref q17, .int 0, .ref q18, .ref q19, .null, .null, .null, .null, .int 0, .null])) :: (q0, aI g 6 (fun _ => 0)) :: (q1, aI g 6 (fun _ => 0)) :: (q2, aI g 6 (fun _ => 0)) :: (q3, aI g 6 (fun _ => 0)) :: (q4, aZ g 6 (fun _ => 0)) :: (q5, aI g 15 (fun _ => 0)) :: (q6, aI g 15 (fun _ => 0)) :: (q7, aI g 15 (fun _ => 0)) :: (q8, aI g 15 (fun _ => 0)) :: (q9, aZ g 15 (fun _ => 0)) :: (q10, aL g 256 (fun _ => 0)) :: (q11, aI g 16 (fun _ => 0)) :: (q12, aL g 16 (fun _ => 0)) :: (q13, aI g 15 (fun _ => 0)) :: (q14, aI g 64 (fun _ => 0)) :: (q15, aZ g 15 (fun _ => 0)) :: (q16, aZ g 15 (fun _ => 0)) :: (q17, aZ g 15 (fun _ => 0)) :: (q18, aI g 15 (fun _ => 0)) :: (q19, aI g 6 (fun _ => 0)) :: [(q20, aI g 6 (fun _ => 0))]) rfl ?_
  refine k_putF C hnm9 in_X11 tyX11_ok nmX11 (q0 := 0) rfl (show vwCl[11]? = some (RX11, TX11, 32) from rfl) 26 (by decide) mw_1031 (fun _ h => h) rfl rfl (ty := .array .int) (tyX11_ok 26 (by decide)) rfl rfl (Nat.le_of_ble_eq_true rfl) dX11_init_170 ?_
  refine k_ws (ws' := (lo, .inr (11, [.int 0, .int 0, .ref q0, .ref q1, .ref q2, .ref q3, .ref q4, .ref q5, .ref q6, .ref q7, .ref q8, .ref q9, .ref q10, .int 0, .int 0, .ref q11, .ref q12, .ref q13, .int 0, .ref q14, .ref q15, .ref q16, .ref q17, .int 0, .ref q18, .ref q19, .ref q20, .null, .null, .null, .int 0, .null])) :: (q0, aI g 6 (fun _ => 0)) :: (q1, aI g 6 (fun _ => 0)) :: (q2, aI g 6 (fun _ => 0)) :: (q3, aI g 6 (fun _ => 0)) :: (q4, aZ g 6 (fun _ => 0)) :: (q5, aI g 15 (fun _ => 0)) :: (q6, aI g 15 (fun _ => 0)) :: (q7, aI g 15 (fun _ => 0)) :: (q8, aI g 15 (fun _ => 0)) :: (q9, aZ g 15 (fun _ => 0)) :: (q10, aL g 256 (fun _ => 0)) :: (q11, aI g 16 (fun _ => 0)) :: (q12, aL g 16 (fun _ => 0)) :: (q13, aI g 15 (fun _ => 0)) :: (q14, aI g 64 (fun _ => 0)) :: (q15, aZ g 15 (fun _ => 0)) :: (q16, aZ g 15 (fun _ => 0)) :: (q17, aZ g 15 (fun _ => 0)) :: (q18, aI g 15 (fun _ => 0)) :: (q19, aI g 6 (fun _ => 0)) :: [(q20, aI g 6 (fun _ => 0))]) rfl ?_
  refine j_aload_n C 0 rfl rfl dX11_init_173 ?_
  refine j_bipush (v := 6) C (by decide) dX11_init_174 ?_
  refine k_newI C hAf mw_191 (n := 6) (N' := 6) (by decide) (by decide) (Nat.le_of_ble_eq_true rfl) (Nat.le_of_ble_eq_true rfl) (Nat.le_of_ble_eq_true rfl) dX11_init_176 (fun q21 => ?_)
  refine k_ws (ws' := (lo, .inr (11, [.int 0, .int 0, .ref q0, .ref q1, .ref q2, .ref q3, .ref q4, .ref q5, .ref q6, .ref q7, .ref q8, .ref q9, .ref q10, .int 0, .int 0, .ref q11, .ref q12, .ref q13, .int 0, .ref q14, .ref q15, .ref q16, .ref q17, .int 0, .ref q18, .ref q19, .ref q20, .null, .null, .null, .int 0, .null])) :: (q0, aI g 6 (fun _ => 0)) :: (q1, aI g 6 (fun _ => 0)) :: (q2, aI g 6 (fun _ => 0)) :: (q3, aI g 6 (fun _ => 0)) :: (q4, aZ g 6 (fun _ => 0)) :: (q5, aI g 15 (fun _ => 0)) :: (q6, aI g 15 (fun _ => 0)) :: (q7, aI g 15 (fun _ => 0)) :: (q8, aI g 15 (fun _ => 0)) :: (q9, aZ g 15 (fun _ => 0)) :: (q10, aL g 256 (fun _ => 0)) :: (q11, aI g 16 (fun _ => 0)) :: (q12, aL g 16 (fun _ => 0)) :: (q13, aI g 15 (fun _ => 0)) :: (q14, aI g 64 (fun _ => 0)) :: (q15, aZ g 15 (fun _ => 0)) :: (q16, aZ g 15 (fun _ => 0)) :: (q17, aZ g 15 (fun _ => 0)) :: (q18, aI g 15 (fun _ => 0)) :: (q19, aI g 6 (fun _ => 0)) :: (q20, aI g 6 (fun _ => 0)) :: [(q21, aI g 6 (fun _ => 0))]) rfl ?_
  refine k_putF C hnm9 in_X11 tyX11_ok nmX11 (q0 := 0) rfl (show vwCl[11]? = some (RX11, TX11, 32) from rfl) 27 (by decide) mw_1032 (fun _ h => h) rfl rfl (ty := .array .int) (tyX11_ok 27 (by decide)) rfl rfl (Nat.le_of_ble_eq_true rfl) dX11_init_178 ?_
  refine k_ws (ws' := (lo, .inr (11, [.int 0, .int 0, .ref q0, .ref q1, .ref q2, .ref q3, .ref q4, .ref q5, .ref q6, .ref q7, .ref q8, .ref q9, .ref q10, .int 0, .int 0, .ref q11, .ref q12, .ref q13, .int 0, .ref q14, .ref q15, .ref q16, .ref q17, .int 0, .ref q18, .ref q19, .ref q20, .ref q21, .null, .null, .int 0, .null])) :: (q0, aI g 6 (fun _ => 0)) :: (q1, aI g 6 (fun _ => 0)) :: (q2, aI g 6 (fun _ => 0)) :: (q3, aI g 6 (fun _ => 0)) :: (q4, aZ g 6 (fun _ => 0)) :: (q5, aI g 15 (fun _ => 0)) :: (q6, aI g 15 (fun _ => 0)) :: (q7, aI g 15 (fun _ => 0)) :: (q8, aI g 15 (fun _ => 0)) :: (q9, aZ g 15 (fun _ => 0)) :: (q10, aL g 256 (fun _ => 0)) :: (q11, aI g 16 (fun _ => 0)) :: (q12, aL g 16 (fun _ => 0)) :: (q13, aI g 15 (fun _ => 0)) :: (q14, aI g 64 (fun _ => 0)) :: (q15, aZ g 15 (fun _ => 0)) :: (q16, aZ g 15 (fun _ => 0)) :: (q17, aZ g 15 (fun _ => 0)) :: (q18, aI g 15 (fun _ => 0)) :: (q19, aI g 6 (fun _ => 0)) :: (q20, aI g 6 (fun _ => 0)) :: [(q21, aI g 6 (fun _ => 0))]) rfl ?_
  refine j_aload_n C 0 rfl rfl dX11_init_181 ?_
  refine j_bipush (v := 6) C (by decide) dX11_init_182 ?_
  refine k_newI C hAf mw_191 (n := 6) (N' := 6) (by decide) (by decide) (Nat.le_of_ble_eq_true rfl) (Nat.le_of_ble_eq_true rfl) (Nat.le_of_ble_eq_true rfl) dX11_init_184 (fun q22 => ?_)
  refine k_ws (ws' := (lo, .inr (11, [.int 0, .int 0, .ref q0, .ref q1, .ref q2, .ref q3, .ref q4, .ref q5, .ref q6, .ref q7, .ref q8, .ref q9, .ref q10, .int 0, .int 0, .ref q11, .ref q12, .ref q13, .int 0, .ref q14, .ref q15, .ref q16, .ref q17, .int 0, .ref q18, .ref q19, .ref q20, .ref q21, .null, .null, .int 0, .null])) :: (q0, aI g 6 (fun _ => 0)) :: (q1, aI g 6 (fun _ => 0)) :: (q2, aI g 6 (fun _ => 0)) :: (q3, aI g 6 (fun _ => 0)) :: (q4, aZ g 6 (fun _ => 0)) :: (q5, aI g 15 (fun _ => 0)) :: (q6, aI g 15 (fun _ => 0)) :: (q7, aI g 15 (fun _ => 0)) :: (q8, aI g 15 (fun _ => 0)) :: (q9, aZ g 15 (fun _ => 0)) :: (q10, aL g 256 (fun _ => 0)) :: (q11, aI g 16 (fun _ => 0)) :: (q12, aL g 16 (fun _ => 0)) :: (q13, aI g 15 (fun _ => 0)) :: (q14, aI g 64 (fun _ => 0)) :: (q15, aZ g 15 (fun _ => 0)) :: (q16, aZ g 15 (fun _ => 0)) :: (q17, aZ g 15 (fun _ => 0)) :: (q18, aI g 15 (fun _ => 0)) :: (q19, aI g 6 (fun _ => 0)) :: (q20, aI g 6 (fun _ => 0)) :: (q21, aI g 6 (fun _ => 0)) :: [(q22, aI g 6 (fun _ => 0))]) rfl ?_
  refine k_putF C hnm9 in_X11 tyX11_ok nmX11 (q0 := 0) rfl (show vwCl[11]? = some (RX11, TX11, 32) from rfl) 28 (by decide) mw_1033 (fun _ h => h) rfl rfl (ty := .array .int) (tyX11_ok 28 (by decide)) rfl rfl (Nat.le_of_ble_eq_true rfl) dX11_init_186 ?_
  refine k_ws (ws' := (lo, .inr (11, [.int 0, .int 0, .ref q0, .ref q1, .ref q2, .ref q3, .ref q4, .ref q5, .ref q6, .ref q7, .ref q8, .ref q9, .ref q10, .int 0, .int 0, .ref q11, .ref q12, .ref q13, .int 0, .ref q14, .ref q15, .ref q16, .ref q17, .int 0, .ref q18, .ref q19, .ref q20, .ref q21, .ref q22, .null, .int 0, .null])) :: (q0, aI g 6 (fun _ => 0)) :: (q1, aI g 6 (fun _ => 0)) :: (q2, aI g 6 (fun _ => 0)) :: (q3, aI g 6 (fun _ => 0)) :: (q4, aZ g 6 (fun _ => 0)) :: (q5, aI g 15 (fun _ => 0)) :: (q6, aI g 15 (fun _ => 0)) :: (q7, aI g 15 (fun _ => 0)) :: (q8, aI g 15 (fun _ => 0)) :: (q9, aZ g 15 (fun _ => 0)) :: (q10, aL g 256 (fun _ => 0)) :: (q11, aI g 16 (fun _ => 0)) :: (q12, aL g 16 (fun _ => 0)) :: (q13, aI g 15 (fun _ => 0)) :: (q14, aI g 64 (fun _ => 0)) :: (q15, aZ g 15 (fun _ => 0)) :: (q16, aZ g 15 (fun _ => 0)) :: (q17, aZ g 15 (fun _ => 0)) :: (q18, aI g 15 (fun _ => 0)) :: (q19, aI g 6 (fun _ => 0)) :: (q20, aI g 6 (fun _ => 0)) :: (q21, aI g 6 (fun _ => 0)) :: [(q22, aI g 6 (fun _ => 0))]) rfl ?_
  refine j_aload_n C 0 rfl rfl dX11_init_189 ?_
  refine j_bipush (v := 96) C (by decide) dX11_init_190 ?_
  refine k_newL C hAf mw_189 (n := 96) (N' := 96) (by decide) (by decide) (Nat.le_of_ble_eq_true rfl) (Nat.le_of_ble_eq_true rfl) (Nat.le_of_ble_eq_true rfl) dX11_init_192 (fun q23 => ?_)
  refine k_ws (ws' := (lo, .inr (11, [.int 0, .int 0, .ref q0, .ref q1, .ref q2, .ref q3, .ref q4, .ref q5, .ref q6, .ref q7, .ref q8, .ref q9, .ref q10, .int 0, .int 0, .ref q11, .ref q12, .ref q13, .int 0, .ref q14, .ref q15, .ref q16, .ref q17, .int 0, .ref q18, .ref q19, .ref q20, .ref q21, .ref q22, .null, .int 0, .null])) :: (q0, aI g 6 (fun _ => 0)) :: (q1, aI g 6 (fun _ => 0)) :: (q2, aI g 6 (fun _ => 0)) :: (q3, aI g 6 (fun _ => 0)) :: (q4, aZ g 6 (fun _ => 0)) :: (q5, aI g 15 (fun _ => 0)) :: (q6, aI g 15 (fun _ => 0)) :: (q7, aI g 15 (fun _ => 0)) :: (q8, aI g 15 (fun _ => 0)) :: (q9, aZ g 15 (fun _ => 0)) :: (q10, aL g 256 (fun _ => 0)) :: (q11, aI g 16 (fun _ => 0)) :: (q12, aL g 16 (fun _ => 0)) :: (q13, aI g 15 (fun _ => 0)) :: (q14, aI g 64 (fun _ => 0)) :: (q15, aZ g 15 (fun _ => 0)) :: (q16, aZ g 15 (fun _ => 0)) :: (q17, aZ g 15 (fun _ => 0)) :: (q18, aI g 15 (fun _ => 0)) :: (q19, aI g 6 (fun _ => 0)) :: (q20, aI g 6 (fun _ => 0)) :: (q21, aI g 6 (fun _ => 0)) :: (q22, aI g 6 (fun _ => 0)) :: [(q23, aL g 96 (fun _ => 0))]) rfl ?_
  refine k_putF C hnm9 in_X11 tyX11_ok nmX11 (q0 := 0) rfl (show vwCl[11]? = some (RX11, TX11, 32) from rfl) 29 (by decide) mw_1034 (fun _ h => h) rfl rfl (ty := .array .long) (tyX11_ok 29 (by decide)) rfl rfl (Nat.le_of_ble_eq_true rfl) dX11_init_194 ?_
  refine k_ws (ws' := (lo, .inr (11, [.int 0, .int 0, .ref q0, .ref q1, .ref q2, .ref q3, .ref q4, .ref q5, .ref q6, .ref q7, .ref q8, .ref q9, .ref q10, .int 0, .int 0, .ref q11, .ref q12, .ref q13, .int 0, .ref q14, .ref q15, .ref q16, .ref q17, .int 0, .ref q18, .ref q19, .ref q20, .ref q21, .ref q22, .ref q23, .int 0, .null])) :: (q0, aI g 6 (fun _ => 0)) :: (q1, aI g 6 (fun _ => 0)) :: (q2, aI g 6 (fun _ => 0)) :: (q3, aI g 6 (fun _ => 0)) :: (q4, aZ g 6 (fun _ => 0)) :: (q5, aI g 15 (fun _ => 0)) :: (q6, aI g 15 (fun _ => 0)) :: (q7, aI g 15 (fun _ => 0)) :: (q8, aI g 15 (fun _ => 0)) :: (q9, aZ g 15 (fun _ => 0)) :: (q10, aL g 256 (fun _ => 0)) :: (q11, aI g 16 (fun _ => 0)) :: (q12, aL g 16 (fun _ => 0)) :: (q13, aI g 15 (fun _ => 0)) :: (q14, aI g 64 (fun _ => 0)) :: (q15, aZ g 15 (fun _ => 0)) :: (q16, aZ g 15 (fun _ => 0)) :: (q17, aZ g 15 (fun _ => 0)) :: (q18, aI g 15 (fun _ => 0)) :: (q19, aI g 6 (fun _ => 0)) :: (q20, aI g 6 (fun _ => 0)) :: (q21, aI g 6 (fun _ => 0)) :: (q22, aI g 6 (fun _ => 0)) :: [(q23, aL g 96 (fun _ => 0))]) rfl ?_
  refine j_aload_n C 0 rfl rfl dX11_init_197 ?_
  refine j_bipush (v := 65) C (by decide) dX11_init_198 ?_
  refine k_newI C hAf mw_191 (n := 65) (N' := 65) (by decide) (by decide) (Nat.le_of_ble_eq_true rfl) (Nat.le_of_ble_eq_true rfl) (Nat.le_of_ble_eq_true rfl) dX11_init_200 (fun q24 => ?_)
  refine k_ws (ws' := (lo, .inr (11, [.int 0, .int 0, .ref q0, .ref q1, .ref q2, .ref q3, .ref q4, .ref q5, .ref q6, .ref q7, .ref q8, .ref q9, .ref q10, .int 0, .int 0, .ref q11, .ref q12, .ref q13, .int 0, .ref q14, .ref q15, .ref q16, .ref q17, .int 0, .ref q18, .ref q19, .ref q20, .ref q21, .ref q22, .ref q23, .int 0, .null])) :: (q0, aI g 6 (fun _ => 0)) :: (q1, aI g 6 (fun _ => 0)) :: (q2, aI g 6 (fun _ => 0)) :: (q3, aI g 6 (fun _ => 0)) :: (q4, aZ g 6 (fun _ => 0)) :: (q5, aI g 15 (fun _ => 0)) :: (q6, aI g 15 (fun _ => 0)) :: (q7, aI g 15 (fun _ => 0)) :: (q8, aI g 15 (fun _ => 0)) :: (q9, aZ g 15 (fun _ => 0)) :: (q10, aL g 256 (fun _ => 0)) :: (q11, aI g 16 (fun _ => 0)) :: (q12, aL g 16 (fun _ => 0)) :: (q13, aI g 15 (fun _ => 0)) :: (q14, aI g 64 (fun _ => 0)) :: (q15, aZ g 15 (fun _ => 0)) :: (q16, aZ g 15 (fun _ => 0)) :: (q17, aZ g 15 (fun _ => 0)) :: (q18, aI g 15 (fun _ => 0)) :: (q19, aI g 6 (fun _ => 0)) :: (q20, aI g 6 (fun _ => 0)) :: (q21, aI g 6 (fun _ => 0)) :: (q22, aI g 6 (fun _ => 0)) :: (q23, aL g 96 (fun _ => 0)) :: [(q24, aI g 65 (fun _ => 0))]) rfl ?_
  refine k_putF C hnm9 in_X11 tyX11_ok nmX11 (q0 := 0) rfl (show vwCl[11]? = some (RX11, TX11, 32) from rfl) 31 (by decide) mw_1036 (fun _ h => h) rfl rfl (ty := .array .int) (tyX11_ok 31 (by decide)) rfl rfl (Nat.le_of_ble_eq_true rfl) dX11_init_202 ?_
  refine k_ws (ws' := (lo, .inr (11, [.int 0, .int 0, .ref q0, .ref q1, .ref q2, .ref q3, .ref q4, .ref q5, .ref q6, .ref q7, .ref q8, .ref q9, .ref q10, .int 0, .int 0, .ref q11, .ref q12, .ref q13, .int 0, .ref q14, .ref q15, .ref q16, .ref q17, .int 0, .ref q18, .ref q19, .ref q20, .ref q21, .ref q22, .ref q23, .int 0, .ref q24])) :: (q0, aI g 6 (fun _ => 0)) :: (q1, aI g 6 (fun _ => 0)) :: (q2, aI g 6 (fun _ => 0)) :: (q3, aI g 6 (fun _ => 0)) :: (q4, aZ g 6 (fun _ => 0)) :: (q5, aI g 15 (fun _ => 0)) :: (q6, aI g 15 (fun _ => 0)) :: (q7, aI g 15 (fun _ => 0)) :: (q8, aI g 15 (fun _ => 0)) :: (q9, aZ g 15 (fun _ => 0)) :: (q10, aL g 256 (fun _ => 0)) :: (q11, aI g 16 (fun _ => 0)) :: (q12, aL g 16 (fun _ => 0)) :: (q13, aI g 15 (fun _ => 0)) :: (q14, aI g 64 (fun _ => 0)) :: (q15, aZ g 15 (fun _ => 0)) :: (q16, aZ g 15 (fun _ => 0)) :: (q17, aZ g 15 (fun _ => 0)) :: (q18, aI g 15 (fun _ => 0)) :: (q19, aI g 6 (fun _ => 0)) :: (q20, aI g 6 (fun _ => 0)) :: (q21, aI g 6 (fun _ => 0)) :: (q22, aI g 6 (fun _ => 0)) :: (q23, aL g 96 (fun _ => 0)) :: [(q24, aI g 65 (fun _ => 0))]) rfl ?_
  exact k_vret C rfl ⟨_, _, rfl, (fun i => match i with | 2 => q0 | 3 => q1 | 4 => q2 | 5 => q3 | 6 => q4 | 7 => q5 | 8 => q6 | 9 => q7 | 10 => q8 | 11 => q9 | 12 => q10 | 15 => q11 | 16 => q12 | 17 => q13 | 19 => q14 | 20 => q15 | 21 => q16 | 22 => q17 | 24 => q18 | 25 => q19 | 26 => q20 | 27 => q21 | 28 => q22 | 29 => q23 | 31 => q24 | _ => 0), rfl, rfl⟩ (Nat.le_of_ble_eq_true rfl) (Nat.le_of_ble_eq_true rfl) dX11_init_205
