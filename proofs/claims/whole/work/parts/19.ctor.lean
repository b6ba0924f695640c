section RCT
variable {p : Program} {l : Launch} {e : Env} {R : Room} {s : State} {m : MethodId} {args : Array Value} {below : List Frame} {meth : Method} {c : Code} {Q : State → Prop}
variable {cc : ByteArray} {nL : Nat} {own : String} {ret : Option FieldType} {Ts : List Cond} {g : Gc} {A : Nat → Prop} {ws ws' : va_W} {cells slots : Nat} {L L' : List (Nat × Value)} {pc : Nat} {st : List Value} {Y : Nat → Prop} {Cn : String} {Wp : Heap → Prop}
theorem k_metN {l : Launch} {g : Gc} {ws : va_W} {sz : Nat} {Cn : String} {Y : Nat → Prop} {y : MethodName} {rm : Room} {av : List Value} {Qc : Array Value → State → Outcome → State → Prop} {mc ms : Nat} {cc : ByteArray} {maxL : Nat} {ret : Option FieldType}
    (hy : plainName y.cls = true) (hlen : (lg_sl av).length ≤ maxL)
    (body : ∀ (p : Program) (e : Env) (s : State) (m : MethodId) (below : List Frame) (meth : Method) (c : Code), Cx p s m av.toArray meth c cc maxL y.cls ret COM g → meth.name = y.name → (∀ q, va_A ws sz q → geB g q) → (∀ q, s.heap.size ≤ q → va_A ws sz q) → EL s (va_A ws sz) Cn Y →
      JG p l e rm s m av.toArray below meth c maxL (va_A ws sz) (MQ below Qc av.toArray s mc ms (va_A ws sz)) (VW g (va_A ws sz) ws) 0 0 (lv_args 0 av) 0 []) : Met l y (WS y cc maxL ret) rm (PreL g ws sz Cn Y av) Qc mc ms (va_A ws sz) := by
  refine Met.ofW (cc := cc) (maxL := maxL) (ret := ret) hy rfl ?_
  intro p e s m args below meth c s₁ B hml hv
  obtain ⟨rfl, hk, hz, hsz, hbs, hP, hD, hel⟩ := hv
  have hl := lv_entry av (n := maxL) hlen
  rw [lg_entry_eq]
  have hts := atoms_spec (ws := WS y cc maxL ret) B.pre
  exact body p e s m below meth c ⟨B.exec, B.bytes, hml, findClass_of_methodNamed B.named, fun w hw => hts w (List.mem_cons_of_mem _ hw), hk, hz, B.returns, B.notSynchronized, by rw [hsz]; exact hbs⟩ (name_of_methodNamed B.named B.method).1 (vaA_in hbs hD) (fun q h => Or.inr (by rw [← hsz]; exact h)) hel s.heap [] _ ⟨hP, hD.self⟩ va_S.rf hl
theorem k_putF (C : Cx p s m args meth c cc nL own ret Ts g) (hname : meth.name = "<init>") {q0 a ci : Nat} {fs : List Value} {ref Cd : String} {TT : u_T} {N index : Nat} (hin : ∀ w ∈ u_ws Cd TT N, w ∈ Ts) {ty0 : Nat → FieldType} (hty : ∀ k, k < N → parseFieldDescriptor (TT k).2.2.1 = some (ty0 k)) (hnm : ∀ a, a < N → ∀ b, b < N → a ≠ b → (TT a).2.1 ≠ (TT b).2.1) (he : ws[q0]? = some (a, .inr (ci, fs))) (hc : vwCl[ci]? = some (Cd, TT, N)) (q : Nat) (hq : q < N) (hlink : Cond.fieldLink own index ref (TT q).2.1 (TT q).2.2.1 ∈ Ts) (hsame : ∀ x, s.fieldFound? (TT q).1 (TT q).2.1 (TT q).2.2.1 = some x → s.fieldFound? ref (TT q).2.1 (TT q).2.2.1 = some x) (hfin : (TT q).2.2.2 = true) (hdecl : (TT q).1 = own) {ty : FieldType} {v : Value} (hd : parseFieldDescriptor (TT q).2.2.1 = some ty) (hn : narrow ty v = v) (hfit : fits ty v = true) (hlf : q < fs.length) (hdg : decode cc pc = .ok (.putfield index, 3))
    (kk : JG p l e R s m args below meth c nL A Q (VW g A (ws.set q0 (a, .inr (ci, fs.set q v)))) cells slots L (pc + 3) st) : JG p l e R s m args below meth c nL A Q (VW g A ws) cells slots L pc (v :: .ref a :: st) :=
  fun H locs ls hW hS hl => va_putF C.x C.b C.ts hin ty0 hty hnm C.ow C.k.1 hW.1 hW.2 hS q0 he hc q hq (C.ts _ hlink) hsame hfin hname hdecl hd hn hfit hlf hdg (fun H1 l1 hP hD hS1 => kk H1 l1 ls ⟨hP, hD⟩ hS1 hl)
theorem k_newL (C : Cx p s m args meth c cc nL own ret Ts g) (hAf : ∀ q, s.heap.size ≤ q → A q) (harr : Cond.arrayClass (newarray.typeOf .long) ∈ Ts) {n : Int32} {N' : Nat} (hn : ¬ n < 0) (hN : n.toNatClampNeg = N') (hbytes : N' * 8 ≤ 536870912) (hcells : cells + 1 ≤ R.cells) (hslots : slots + N' ≤ R.slots) (hdg : decode cc pc = .ok (.newarray .long, 2))
    (kk : ∀ q : Nat, JG p l e R s m args below meth c nL A Q (VW g A (ws ++ [(q, aL g N' (fun _ => 0))])) (cells + 1) (slots + N') L (pc + 2) (.ref q :: st)) : JG p l e R s m args below meth c nL A Q (VW g A ws) cells slots L pc (.int n :: st) := by
  intro H locs ls hW hS hl
  refine va_newa C.x C.b (C.ts _ harr) rfl C.k.1 hW.1 hW.2 hS hAf (a0 := (N', .inr (.inl fun _ => 0))) (fun cA => rfl) hn hN hbytes hcells hslots hdg (fun q cA H1 hK1 hP hD hS1 => ?_)
  have e : cA = g.2.1 1 := by
    have h1 := (hK1.2 6 _ rfl).2
    have h2 := (C.k.1.2 1 _ rfl).2
    exact Option.some.inj (h1.symm.trans h2)
  subst e
  exact kk q H1 locs ls ⟨hP, hD⟩ hS1 hl
end RCT
abbrev rm_X4_init : Room := { frames := 1, cells := 0, slots := 0, locals := 20 }
set_option maxRecDepth 100000 in
set_option maxHeartbeats 4000000 in
theorem c_X4_init {l : Launch} {g : Gc} {ws : va_W} {Cn : String} {Y : Nat → Prop} {lo : Nat} {n x y z0 z1 z2 z3 z4 z5 : Int32} (h0 : ws[0]? = some (lo, .inr (5, [.int z0, .int z1, .int z2, .int z3, .int z4, .int z5]))) (sz : Nat) : Met l yX4_init (WS yX4_init cX4_init 4 none) rm_X4_init (PreL g ws sz Cn Y [.ref lo, .int n, .int x, .int y]) (PoLv g (fun ws2 => ws2[0]? = some (lo, .inr (5, [.int n, .int x, .int y, .int z3, .int z4, .int z5])) ∧ ws2.length = ws.length) (va_A ws sz)) 0 0 (va_A ws sz) := by
  refine k_metN (by decide) (Nat.le_of_ble_eq_true rfl) fun p e s m9 below meth c C hnm9 hAB hAf hel => ?_
  refine j_sub [0, 1, 2, 3] rfl ?_
  refine j_aload_n C 0 rfl rfl dX4_init_0 ?_
  refine j_objInit C mw_332 mw_90 mw_91 (Nat.le_of_ble_eq_true rfl) (Nat.le_of_ble_eq_true rfl) dX4_init_1 ?_
  refine j_aload_n C 0 rfl rfl dX4_init_4 ?_
  refine j_iload_n C 1 rfl rfl dX4_init_5 ?_
  refine k_putF C hnm9 in_X4 tyX4_ok nmX4 (q0 := 0) h0 (show vwCl[5]? = some (RX4, TX4, 6) from rfl) 0 (by decide) mw_333 (fun _ h => h) rfl rfl (ty := .int) (tyX4_ok 0 (by decide)) rfl rfl (Nat.le_of_ble_eq_true rfl) dX4_init_6 ?_
  refine j_aload_n C 0 rfl rfl dX4_init_9 ?_
  refine j_iload_n C 2 rfl rfl dX4_init_10 ?_
  refine k_put C in_X4 tyX4_ok nmX4 (q0 := 0) (lset0 h0) (show vwCl[5]? = some (RX4, TX4, 6) from rfl) 1 (by decide) mw_337 (fun _ h => h) rfl (ty := .int) (tyX4_ok 1 (by decide)) rfl rfl (Nat.le_of_ble_eq_true rfl) dX4_init_11 ?_
  refine j_aload_n C 0 rfl rfl dX4_init_14 ?_
  refine j_iload_n C 3 rfl rfl dX4_init_15 ?_
  refine k_put C in_X4 tyX4_ok nmX4 (q0 := 0) (lset0 (lset0 h0)) (show vwCl[5]? = some (RX4, TX4, 6) from rfl) 2 (by decide) mw_341 (fun _ h => h) rfl (ty := .int) (tyX4_ok 2 (by decide)) rfl rfl (Nat.le_of_ble_eq_true rfl) dX4_init_16 ?_
  exact k_vret C rfl ⟨(lset0 (lset0 (lset0 h0))), by simp⟩ (Nat.le_of_ble_eq_true rfl) (Nat.le_of_ble_eq_true rfl) dX4_init_19
abbrev rm_X5_init : Room := { frames := 1, cells := 0, slots := 0, locals := 20 }
set_option maxRecDepth 100000 in
set_option maxHeartbeats 4000000 in
theorem c_X5_init {l : Launch} {g : Gc} {ws : va_W} {Cn : String} {Y : Nat → Prop} {lo a b : Nat} {n kd pr z0 z1 z4 z5 : Int32} {v2 v3 : Value} (h0 : ws[0]? = some (lo, .inr (6, [.int z0, .int z1, v2, v3, .int z4, .int z5]))) (sz : Nat) : Met l yX5_init (WS yX5_init cX5_init 6 none) rm_X5_init (PreL g ws sz Cn Y [.ref lo, .int n, .int kd, .ref a, .ref b, .int pr]) (PoLv g (fun ws2 => ws2[0]? = some (lo, .inr (6, [.int n, .int kd, .ref a, .ref b, .int pr, .int (if kd < 3 then 1 else 0)])) ∧ ws2.length = ws.length) (va_A ws sz)) 0 0 (va_A ws sz) := by
  refine k_metN (by decide) (Nat.le_of_ble_eq_true rfl) fun p e s m9 below meth c C hnm9 hAB hAf hel => ?_
  refine j_sub [0, 1, 2, 3, 4, 5] rfl ?_
  refine j_aload_n C 0 rfl rfl dX5_init_0 ?_
  refine j_objInit C mw_645 mw_90 mw_91 (Nat.le_of_ble_eq_true rfl) (Nat.le_of_ble_eq_true rfl) dX5_init_1 ?_
  refine j_aload_n C 0 rfl rfl dX5_init_4 ?_
  refine j_iload_n C 1 rfl rfl dX5_init_5 ?_
  refine k_putF C hnm9 in_X5 tyX5_ok nmX5 (q0 := 0) h0 (show vwCl[6]? = some (RX5, TX5, 6) from rfl) 0 (by decide) mw_646 (fun _ h => h) rfl rfl (ty := .int) (tyX5_ok 0 (by decide)) rfl rfl (Nat.le_of_ble_eq_true rfl) dX5_init_6 ?_
  refine j_aload_n C 0 rfl rfl dX5_init_9 ?_
  refine j_iload_n C 2 rfl rfl dX5_init_10 ?_
  refine k_putF C hnm9 in_X5 tyX5_ok nmX5 (q0 := 0) (lset0 h0) (show vwCl[6]? = some (RX5, TX5, 6) from rfl) 1 (by decide) mw_648 (fun _ h => h) rfl rfl (ty := .int) (tyX5_ok 1 (by decide)) rfl rfl (Nat.le_of_ble_eq_true rfl) dX5_init_11 ?_
  refine j_aload_n C 0 rfl rfl dX5_init_14 ?_
  refine j_aload_n C 3 rfl rfl dX5_init_15 ?_
  refine k_putF C hnm9 in_X5 tyX5_ok nmX5 (q0 := 0) (lset0 (lset0 h0)) (show vwCl[6]? = some (RX5, TX5, 6) from rfl) 2 (by decide) mw_650 (fun _ h => h) rfl rfl (ty := .object "RodBench$Pin") (tyX5_ok 2 (by decide)) rfl rfl (Nat.le_of_ble_eq_true rfl) dX5_init_16 ?_
  refine j_aload_n C 0 rfl rfl dX5_init_19 ?_
  refine j_aload C 4 rfl dX5_init_20 ?_
  refine k_putF C hnm9 in_X5 tyX5_ok nmX5 (q0 := 0) (lset0 (lset0 (lset0 h0))) (show vwCl[6]? = some (RX5, TX5, 6) from rfl) 3 (by decide) mw_654 (fun _ h => h) rfl rfl (ty := .object "RodBench$Pin") (tyX5_ok 3 (by decide)) rfl rfl (Nat.le_of_ble_eq_true rfl) dX5_init_22 ?_
  refine j_aload_n C 0 rfl rfl dX5_init_25 ?_
  refine j_iload C 5 rfl dX5_init_26 ?_
  refine k_putF C hnm9 in_X5 tyX5_ok nmX5 (q0 := 0) (lset0 (lset0 (lset0 (lset0 h0)))) (show vwCl[6]? = some (RX5, TX5, 6) from rfl) 4 (by decide) mw_657 (fun _ h => h) rfl rfl (ty := .int) (tyX5_ok 4 (by decide)) rfl rfl (Nat.le_of_ble_eq_true rfl) dX5_init_28 ?_
  refine j_aload_n C 0 rfl rfl dX5_init_31 ?_
  refine j_iload_n C 2 rfl rfl dX5_init_32 ?_
  refine j_iconst (v := 3) C (by decide) dX5_init_33 ?_
  refine j_icmp_ge (tgt := 41) C (by decide) dX5_init_34 (fun hc => ?_) (fun hc => ?_)
  · refine j_iconst (v := 0) C (by decide) dX5_init_41 ?_
    refine k_put C in_X5 tyX5_ok nmX5 (q0 := 0) (lset0 (lset0 (lset0 (lset0 (lset0 h0))))) (show vwCl[6]? = some (RX5, TX5, 6) from rfl) 5 (by decide) mw_661 (fun _ h => h) rfl (ty := .boolean) (tyX5_ok 5 (by decide)) rfl rfl (Nat.le_of_ble_eq_true rfl) dX5_init_42 ?_
    exact k_vret C rfl ⟨by rw [if_neg (Int32.not_lt.mpr hc)]; exact (lset0 (lset0 (lset0 (lset0 (lset0 (lset0 h0)))))), by simp⟩ (Nat.le_of_ble_eq_true rfl) (Nat.le_of_ble_eq_true rfl) dX5_init_45
  · refine j_iconst (v := 1) C (by decide) dX5_init_37 ?_
    refine j_goto (tgt := 42) C (by decide) dX5_init_38 ?_
    refine k_put C in_X5 tyX5_ok nmX5 (q0 := 0) (lset0 (lset0 (lset0 (lset0 (lset0 h0))))) (show vwCl[6]? = some (RX5, TX5, 6) from rfl) 5 (by decide) mw_661 (fun _ h => h) rfl (ty := .boolean) (tyX5_ok 5 (by decide)) rfl rfl (Nat.le_of_ble_eq_true rfl) dX5_init_42 ?_
    exact k_vret C rfl ⟨by rw [if_pos (Int32.not_le.mp hc)]; exact (lset0 (lset0 (lset0 (lset0 (lset0 (lset0 h0)))))), by simp⟩ (Nat.le_of_ble_eq_true rfl) (Nat.le_of_ble_eq_true rfl) dX5_init_45
theorem rowI_ok {g : Gc} {ws : va_W} {lo q N : Nat} {so : Int32} {e0 : va_E} {v : Value} {r : Nat × va_E} (h0 : ws[0]? = some (lo, e0)) (hlen : ws.length = 1) : ∃ q2, ((ws.set 0 r ++ [(q, aL g N (fun _ => 0))]).set 0 (lo, .inr (7, [Value.int so, v].set 1 (.ref q))))[0]? = some (lo, .inr (7, [.int so, .ref q2])) ∧ ((ws.set 0 r ++ [(q, aL g N (fun _ => 0))]).set 0 (lo, .inr (7, [Value.int so, v].set 1 (.ref q))))[1]? = some (q2, aL g N (fun _ => 0)) := by
  refine ⟨q, ?_, ?_⟩
  · rw [List.getElem?_set_self (by simp)]; rfl
  · rw [List.getElem?_set_ne (by decide), List.getElem?_append_right (by simp [hlen])]; simp [hlen]
abbrev rm_X6_init : Room := { frames := 1, cells := 1, slots := 15, locals := 20 }
set_option maxRecDepth 100000 in
set_option maxHeartbeats 4000000 in
theorem c_X6_init {l : Launch} {g : Gc} {ws : va_W} {Cn : String} {Y : Nat → Prop} {lo N : Nat} {so z z0 : Int32} {v1 : Value} (hlen : ws.length = 1) (hNb : N ≤ 15) (hN9 : (if z < (0 : Int32) then (0 : Int32) else z) = nI N) (h0 : ws[0]? = some (lo, .inr (7, [.int z0, v1]))) (sz : Nat) : Met l yX6_init (WS yX6_init cX6_init 3 none) rm_X6_init (PreL g ws sz Cn Y [.ref lo, .int so, .int z]) (PoLv g (fun ws2 => ∃ q2, ws2[0]? = some (lo, .inr (7, [.int so, .ref q2])) ∧ ws2[1]? = some (q2, aL g N (fun _ => 0))) (va_A ws sz)) 1 15 (va_A ws sz) := by
  refine k_metN (by decide) (Nat.le_of_ble_eq_true rfl) fun p e s m9 below meth c C hnm9 hAB hAf hel => ?_
  refine j_sub [0, 1, 2] rfl ?_
  refine j_aload_n C 0 rfl rfl dX6_init_0 ?_
  refine j_objInit C mw_930 mw_90 mw_91 (Nat.le_of_ble_eq_true rfl) (Nat.le_of_ble_eq_true rfl) dX6_init_1 ?_
  refine j_aload_n C 0 rfl rfl dX6_init_4 ?_
  refine j_iload_n C 1 rfl rfl dX6_init_5 ?_
  refine k_putF C hnm9 in_X6 tyX6_ok nmX6 (q0 := 0) h0 (show vwCl[7]? = some (RX6, TX6, 2) from rfl) 0 (by decide) mw_932 (fun _ h => h) rfl rfl (ty := .int) (tyX6_ok 0 (by decide)) rfl rfl (Nat.le_of_ble_eq_true rfl) dX6_init_6 ?_
  refine j_aload_n C 0 rfl rfl dX6_init_9 ?_
  refine j_iload_n C 2 rfl rfl dX6_init_10 ?_
  refine j_iconst (v := 0) C (by decide) dX6_init_11 ?_
  refine j_maxI C mw_931 mw_391 mw_78 mw_392 (Nat.le_of_ble_eq_true rfl) (Nat.le_of_ble_eq_true rfl) (Nat.le_of_ble_eq_true rfl) (Nat.le_of_ble_eq_true rfl) dX6_init_12 ?_
  rw [hN9]
  refine k_newL C hAf mw_189 (nI_pos (by omega)) (nI_clamp (by omega)) (by omega) (Nat.le_of_ble_eq_true rfl) (by show 0 + N ≤ 15; omega) dX6_init_15 (fun q => ?_)
  refine k_putF C hnm9 in_X6 tyX6_ok nmX6 (q0 := 0) (by rw [List.getElem?_append_left (List.getElem?_eq_some_iff.mp (lset0 h0)).1]; exact lset0 h0) (show vwCl[7]? = some (RX6, TX6, 2) from rfl) 1 (by decide) mw_934 (fun _ h => h) rfl rfl (ty := .array .long) (tyX6_ok 1 (by decide)) rfl rfl (Nat.le_of_ble_eq_true rfl) dX6_init_17 ?_
  exact k_vret C rfl (rowI_ok h0 hlen) (Nat.le_of_ble_eq_true rfl) (by omega) dX6_init_20
