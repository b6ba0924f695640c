def R_law : String := "RodBenchLaw"
def lw_P (b : Addr) (xs : List Int32) (args : Array Value) (s : State) : Prop := args = #[.ref b] ∧ s.IntsAt b xs ∧ xs.length ≤ 2560 ∧ (Jvm.Cond.and given_1 narrow_1).before args s = true
def lw_Q (_ : Array Value) (s : State) (o : Outcome) (t : State) : Prop := o = .returned (some (.int 1)) ∧ Framed s o t [] 600000 7302250
def lw_Z (below : List Frame) (a : Array Value) (s : State) : State → Prop := fun t => ∃ o, t.status = .running ∧ Ended t below o ∧ lw_Q a s o t
/-- the law's own end, with 1 on the stack, nothing written that was there before, its room as the claim has it -/
theorem lw_ret {p : Program} {l : Launch} {e : Env} {s : State} {m : MethodId} {below : List Frame} {meth : Method} {c : Code} {b : Nat} (hx : p.tables.exec = Jvm.exec) (hb : c.code = code) (hr : meth.sig.returnType = ret) (hlocks : meth.locks = false) {pc : Nat} {H : Heap} {ls : Array Slot} (hdg : decode code pc = .ok (.ireturn, 1)) : W p l e room_1 s m #[Value.ref b] below meth c H [] 600000 7302250 (lw_Z below #[Value.ref b] s) (F0 m pc ls [.int 1]) := by
  intro T hT X
  obtain ⟨fs, hret, hrun, hended, hW, hframe⟩ := X.leave (v := some (.int 1)) (hlocks := hlocks) (fun h => by rw [hr] at h; cases h)
  have hmeth' : T.vm.method? m = some meth := X.method'
  refine ⟨T.setFrames fs, ?_, .returned (some (.int 1)), hrun, hended, rfl, ⟨_, rfl⟩, hW, hframe⟩
  jvm_step X.here [X.here.top, hx, hb, hdg, hmeth', hr, ret, narrow_b1]
  (try refine ⟨rfl, ?_⟩); (try refine ⟨rfl, ?_⟩)
  first | (intro acts; rw [hret _ acts rfl rfl rfl]) | rw [hret _ _ rfl rfl rfl]
  exact Steps.refl _
/-- what holds at the law's entry: the machine, the code, the tables' words (any of lw_tbl by 'hts w (by decide +kernel)'), the script of L ints xs at the cell b, what the Statement gives of the start (any of its parts by flat_of_before) -/
def lw_At (p : Program) (s : State) (m : MethodId) (meth : Method) (c : Code) (b L : Nat) (xs : Nat → Int32) : Prop :=
  p.tables.exec = Jvm.exec ∧ c.code = code ∧ meth.sig.returnType = ret ∧ c.maxLocals = 4 ∧ s.vm.findClass R_law = some m.cls ∧ (∀ w ∈ lw_tbl, w.before #[Value.ref b] s = true) ∧ va_X b L xs s s.heap ∧ b < s.heap.size ∧ meth.locks = false ∧ (Jvm.Cond.and given_1 narrow_1).before #[Value.ref b] s = true
theorem arr_prim {s : State} {args : Array Value} {ty : FieldType} (h : (Cond.arrayClass ty).before args s = true) (hn : ∀ C, ty ≠ .object C) : ∃ cA : ClassId, ArrOfT s cA ty ∧ va_RA s cA ty := by
  obtain ⟨cA, kA, comp, h1, h2, h3⟩ := Cond.arrayClass_spec h
  refine ⟨cA, fun n z => ⟨(fun k q => by cases q), kA, h2, comp, h3⟩, ?_⟩
  cases ty with
  | object C => exact absurd rfl (hn C)
  | _ => exact h1
theorem arr_obj {s : State} {args : Array Value} {C : String} (h : (Cond.arrayOver (.object C)).before args s = true) : ∃ cA : ClassId, ArrOfT s cA (.object C) ∧ va_RA s cA (.object C) := by
  obtain ⟨comp, cA, kA, h1, h2, h3, h4, h5⟩ := Cond.arrayOver_spec h
  exact ⟨cA, fun n z => ⟨(fun k q => by cases q), kA, h3, comp, h4⟩, kA, comp, h3, h4, h1, h5⟩
theorem arr_arr {s : State} {args : Array Value} {t : FieldType} (h : (Cond.arrayOver (.array t)).before args s = true) : ∃ cA : ClassId, ArrOfT s cA (.array t) ∧ va_RA s cA (.array t) := by
  obtain ⟨comp, cA, kA, h1, h2, h3, h4, h5⟩ := arrayOverA_spec h
  exact ⟨cA, fun n z => ⟨(fun k q => by cases q), kA, h3, comp, h4⟩, h5⟩
theorem len_ev {s : State} {args : Array Value} {tm : Term} {z : Int32} (h : (Cond.eq (.length tm) (.int z)).before args s = true) : (Term.length tm).eval args s none [] s = some (.int z) := by
  cases hv : (Term.length tm).eval args s none [] s with
  | none => simp [Cond.before, Cond.holds, Cond.value, hv] at h
  | some w =>
    have hz : (Term.int z).eval args s none [] s = some (.int z) := rfl
    simp only [Cond.before, Cond.holds, Cond.value, hv, hz] at h
    cases w <;> simp_all
set_option maxRecDepth 100000 in
set_option maxHeartbeats 4000000 in
theorem ck_start {p : Program} {s : State} {m : MethodId} {meth : Method} {c : Code} {b L : Nat} {xs : Nat → Int32} (C0 : lw_At p s m meth c b L xs) : ∃ g : Gc, CK g s ∧ CZ g s s.heap ∧ g.2.2.2 = s.heap.size ∧ AO2 s := by
  obtain ⟨hx, hb, hr, hml, hown, hts, hX, hbl, hlocks, hgv⟩ := C0
  have hC : ∀ w ∈ COM, w.before #[Value.ref b] s = true := fun w hw => hts w (com_in hw)
  have hf := flat_of_before _ hgv
  obtain ⟨c0, i0, k0⟩ := u_known (C := RJx4a65c) (T := TJx4a65c) (N := 3) (n := 3) hC in_Jx4a65c (hC _ mw_99)
  obtain ⟨c1, i1, k1⟩ := u_known (C := RX0) (T := TX0) (N := 3) (n := 3) hC in_X0 (hC _ mw_151)
  obtain ⟨c2, i2, k2⟩ := u_known (C := RX1) (T := TX1) (N := 5) (n := 5) hC in_X1 (hC _ mw_226)
  obtain ⟨c3, i3, k3⟩ := u_known (C := RX2) (T := TX2) (N := 4) (n := 4) hC in_X2 (hC _ mw_93)
  obtain ⟨c4, i4, k4⟩ := u_known (C := RX3) (T := TX3) (N := 4) (n := 4) hC in_X3 (hC _ mw_203)
  obtain ⟨c5, i5, k5⟩ := u_known (C := RX4) (T := TX4) (N := 6) (n := 6) hC in_X4 (hC _ mw_328)
  obtain ⟨c6, i6, k6⟩ := u_known (C := RX5) (T := TX5) (N := 6) (n := 6) hC in_X5 (hC _ mw_641)
  obtain ⟨c7, i7, k7⟩ := u_known (C := RX6) (T := TX6) (N := 2) (n := 2) hC in_X6 (hC _ mw_924)
  obtain ⟨c8, i8, k8⟩ := u_known (C := RX7) (T := TX7) (N := 8) (n := 8) hC in_X7 (hC _ mw_157)
  obtain ⟨c9, i9, k9⟩ := u_known (C := RX9) (T := TX9) (N := 4) (n := 4) hC in_X9 (hC _ mw_248)
  obtain ⟨c10, i10, k10⟩ := u_known (C := RX10) (T := TX10) (N := 5) (n := 5) hC in_X10 (hC _ mw_85)
  obtain ⟨c11, i11, k11⟩ := u_known (C := RX11) (T := TX11) (N := 32) (n := 32) hC in_X11 (hC _ mw_1000)
  obtain ⟨a0, h0⟩ := arr_prim (ty := .int) (hC _ mw_191) (fun C q => by cases q)
  obtain ⟨a1, h1⟩ := arr_prim (ty := .long) (hC _ mw_189) (fun C q => by cases q)
  obtain ⟨a2, h2⟩ := arr_prim (ty := .boolean) (hC _ mw_190) (fun C q => by cases q)
  have wT : (Cond.arrayOver (.object "RodBench$Thing")).before #[Value.ref b] s = true := (hts _ (List.mem_of_getElem? (l := lw_tbl) (i := 254) (by decide +kernel)))
  have wO : (Cond.arrayOver (.object "java/lang/Object")).before #[Value.ref b] s = true := (hts _ (List.mem_of_getElem? (l := lw_tbl) (i := 420) (by decide +kernel)))
  have wA : (Cond.arrayOver (.array .long)).before #[Value.ref b] s = true := (hts _ (List.mem_of_getElem? (l := lw_tbl) (i := 163) (by decide +kernel)))
  obtain ⟨a3, h3⟩ := arr_obj wT
  obtain ⟨a4, h4⟩ := arr_obj wO
  obtain ⟨a5, h5⟩ := arr_arr wA
  obtain ⟨mi, hmi⟩ := va_Mi.of (hf (Cond.isRef (.mirror "[Ljava/lang/Object;")) (by decide +kernel))
  have hout : ∀ a : Nat, a < s.heap.size → ¬ (fun q => s.heap.size ≤ q) a := fun a ha q => Nat.not_le.mpr ha q
  obtain ⟨e0, he0, hT0⟩ := va_Tof (tm := (.static "java/util/ArrayList" "DEFAULTCAPACITY_EMPTY_ELEMENTDATA" "[Ljava/lang/Object;")) (ty := .object "java/lang/Object") (N := 0) (f := fun _ => .null) (A := fun q => s.heap.size ≤ q) (by decide) (hf _ (by decide +kernel)) (len_ev (hf _ (by decide +kernel))) (fun j hj => absurd hj (Nat.not_lt_zero j)) hout
  have hZ0 := va_Zref (A := fun q => s.heap.size ≤ q) (hts _ (List.mem_of_getElem? (l := lw_tbl) (i := 111) (by decide +kernel))) (hC _ mw_67) he0 hout
  refine ⟨((fun k => match k with | 0 => c0 | 1 => c1 | 2 => c2 | 3 => c3 | 4 => c4 | 5 => c5 | 6 => c6 | 7 => c7 | 8 => c8 | 9 => c9 | 10 => c10 | _ => c11, fun k => match k with | 0 => i0 | 1 => i1 | 2 => i2 | 3 => i3 | 4 => i4 | 5 => i5 | 6 => i6 | 7 => i7 | 8 => i8 | 9 => i9 | 10 => i10 | _ => i11), (fun k => match k with | 0 => a0 | 1 => a1 | 2 => a2 | 3 => a3 | 4 => a4 | 5 => a5 | _ => mi), e0, s.heap.size), ⟨⟨fun k q hq => ?_, fun k q hq => ?_⟩, ?_, ?_, hmi, va_Dc.of (hts _ (List.mem_of_getElem? (l := lw_tbl) (i := 1333) (by decide +kernel))), va_AO.of wO, va_AO.of wT, ?_, va_Nc.of (hf (Cond.not (.castable "RodBench$Rod" "RodBench$Row")) (by decide +kernel)), va_Nc.of (hf (Cond.not (.castable "RodBench$Row" "RodBench$Rod")) (by decide +kernel))⟩, ⟨hZ0, hT0⟩, rfl, wA⟩
  · match k, hq with
    | 0, hq => cases hq; exact k0
    | 1, hq => cases hq; exact k1
    | 2, hq => cases hq; exact k2
    | 3, hq => cases hq; exact k3
    | 4, hq => cases hq; exact k4
    | 5, hq => cases hq; exact k5
    | 6, hq => cases hq; exact k6
    | 7, hq => cases hq; exact k7
    | 8, hq => cases hq; exact k8
    | 9, hq => cases hq; exact k9
    | 10, hq => cases hq; exact k10
    | 11, hq => cases hq; exact k11
    | k + 12, hq => simp [vwCl] at hq
  · match k, hq with
    | 0, hq => cases hq; exact h0
    | 1, hq => cases hq; exact h1
    | 2, hq => cases hq; exact h2
    | 3, hq => cases hq; exact h3
    | 4, hq => cases hq; exact h4
    | 5, hq => cases hq; exact h5
    | k + 6, hq => simp [tysW] at hq
  · intro q hq
    simp only [fwL, List.mem_cons, List.not_mem_nil, or_false] at hq
    rcases hq with rfl | rfl | rfl | rfl | rfl
    · exact va_Fw.of (hts _ (List.mem_of_getElem? (l := lw_tbl) (i := 308) (by decide +kernel))) (hts _ (List.mem_of_getElem? (l := lw_tbl) (i := 307) (by decide +kernel))) (hts _ (List.mem_of_getElem? (l := lw_tbl) (i := 312) (by decide +kernel))) (hts _ (List.mem_of_getElem? (l := lw_tbl) (i := 310) (by decide +kernel))) (hts _ (List.mem_of_getElem? (l := lw_tbl) (i := 299) (by decide +kernel)))
    · exact va_Fw.of (hts _ (List.mem_of_getElem? (l := lw_tbl) (i := 298) (by decide +kernel))) (hts _ (List.mem_of_getElem? (l := lw_tbl) (i := 297) (by decide +kernel))) (hts _ (List.mem_of_getElem? (l := lw_tbl) (i := 303) (by decide +kernel))) (hts _ (List.mem_of_getElem? (l := lw_tbl) (i := 301) (by decide +kernel))) (hts _ (List.mem_of_getElem? (l := lw_tbl) (i := 299) (by decide +kernel)))
    · exact va_Fw.of (hts _ (List.mem_of_getElem? (l := lw_tbl) (i := 369) (by decide +kernel))) (hts _ (List.mem_of_getElem? (l := lw_tbl) (i := 368) (by decide +kernel))) (hts _ (List.mem_of_getElem? (l := lw_tbl) (i := 373) (by decide +kernel))) (hts _ (List.mem_of_getElem? (l := lw_tbl) (i := 371) (by decide +kernel))) (hts _ (List.mem_of_getElem? (l := lw_tbl) (i := 299) (by decide +kernel)))
    · exact va_Fw.of (hts _ (List.mem_of_getElem? (l := lw_tbl) (i := 550) (by decide +kernel))) (hts _ (List.mem_of_getElem? (l := lw_tbl) (i := 549) (by decide +kernel))) (hts _ (List.mem_of_getElem? (l := lw_tbl) (i := 554) (by decide +kernel))) (hts _ (List.mem_of_getElem? (l := lw_tbl) (i := 552) (by decide +kernel))) (hts _ (List.mem_of_getElem? (l := lw_tbl) (i := 299) (by decide +kernel)))
    · exact va_Fw.of (hts _ (List.mem_of_getElem? (l := lw_tbl) (i := 441) (by decide +kernel))) (hts _ (List.mem_of_getElem? (l := lw_tbl) (i := 440) (by decide +kernel))) (hts _ (List.mem_of_getElem? (l := lw_tbl) (i := 445) (by decide +kernel))) (hts _ (List.mem_of_getElem? (l := lw_tbl) (i := 443) (by decide +kernel))) (hts _ (List.mem_of_getElem? (l := lw_tbl) (i := 299) (by decide +kernel)))
  · intro q hq
    simp only [caL, List.mem_cons, List.not_mem_nil, or_false] at hq
    rcases hq with rfl | rfl | rfl | rfl
    · exact va_Nw.of rfl (hts _ (List.mem_of_getElem? (l := lw_tbl) (i := 1316) (by decide +kernel)))
    · exact va_Nw.of rfl (hts _ (List.mem_of_getElem? (l := lw_tbl) (i := 1317) (by decide +kernel)))
    · exact va_Nw.of rfl (hts _ (List.mem_of_getElem? (l := lw_tbl) (i := 1329) (by decide +kernel)))
    · exact va_Nw.of rfl (hts _ (List.mem_of_getElem? (l := lw_tbl) (i := 1328) (by decide +kernel)))
  · intro q hq
    simp only [neL, List.mem_cons, List.not_mem_nil, or_false] at hq
    rcases hq with rfl | rfl | rfl
    · exact va_Nw.of rfl (hts _ (List.mem_of_getElem? (l := lw_tbl) (i := 94) (by decide +kernel)))
    · exact va_Nw.of rfl (hts _ (List.mem_of_getElem? (l := lw_tbl) (i := 158) (by decide +kernel)))
    · exact va_Nw.of rfl (hts _ (List.mem_of_getElem? (l := lw_tbl) (i := 211) (by decide +kernel)))
