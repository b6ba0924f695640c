section RBL
variable {p : Program} {l : Launch} {e : Env} {R : Room} {s : State} {m : MethodId} {args : Array Value} {below : List Frame} {meth : Method} {c : Code} {Q : State → Prop}
variable {cc : ByteArray} {nL : Nat} {own : String} {ret : Option FieldType} {Ts : List Cond} {g : Gc} {A : Nat → Prop} {ws ws' : va_W} {cells slots : Nat} {L L' : List (Nat × Value)} {pc : Nat} {st : List Value} {Y : Nat → Prop} {Cn : String}
/-! A LIST'S OWN WORLD: its object and its array, as a list of cells -/
def VW (g : Gc) (A : Nat → Prop) (ws : va_W) (H : Heap) : Prop := va_P g.1 vwCl ws H ∧ va_D A ws
theorem k_get (C : Cx p s m args meth c cc nL own ret Ts g) {q0 a ci : Nat} {fs : List Value} {ref Cd : String} {TT : u_T} {N index : Nat} (hin : ∀ w ∈ u_ws Cd TT N, w ∈ Ts) (he : ws[q0]? = some (a, .inr (ci, fs))) (hc : vwCl[ci]? = some (Cd, TT, N)) (q : Nat) (hq : q < N) (hlink : Cond.fieldLink own index ref (TT q).2.1 (TT q).2.2.1 ∈ Ts) (hsame : ∀ x, s.fieldFound? (TT q).1 (TT q).2.1 (TT q).2.2.1 = some x → s.fieldFound? ref (TT q).2.1 (TT q).2.2.1 = some x) {v : Value} (hv : fs[q]? = some v) (hdg : decode cc pc = .ok (.getfield index, 3))
    (kk : JG p l e R s m args below meth c nL A Q (VW g A ws) cells slots L (pc + 3) (v :: st)) : JG p l e R s m args below meth c nL A Q (VW g A ws) cells slots L pc (.ref a :: st) :=
  fun H locs ls hW hS hl => va_get C.x C.b C.ts hin C.ow C.k.1 hW.1 q0 he hc q hq (C.ts _ hlink) hsame hv hdg (kk H locs ls hW hS hl)
theorem k_put (C : Cx p s m args meth c cc nL own ret Ts g) {q0 a ci : Nat} {fs : List Value} {ref Cd : String} {TT : u_T} {N index : Nat} (hin : ∀ w ∈ u_ws Cd TT N, w ∈ Ts) {ty0 : Nat → FieldType} (hty : ∀ k, k < N → parseFieldDescriptor (TT k).2.2.1 = some (ty0 k)) (hnm : ∀ a, a < N → ∀ b, b < N → a ≠ b → (TT a).2.1 ≠ (TT b).2.1) (he : ws[q0]? = some (a, .inr (ci, fs))) (hc : vwCl[ci]? = some (Cd, TT, N)) (q : Nat) (hq : q < N) (hlink : Cond.fieldLink own index ref (TT q).2.1 (TT q).2.2.1 ∈ Ts) (hsame : ∀ x, s.fieldFound? (TT q).1 (TT q).2.1 (TT q).2.2.1 = some x → s.fieldFound? ref (TT q).2.1 (TT q).2.2.1 = some x) (hfin : (TT q).2.2.2 = false) {ty : FieldType} {v : Value} (hd : parseFieldDescriptor (TT q).2.2.1 = some ty) (hn : narrow ty v = v) (hfit : fits ty v = true) (hlf : q < fs.length) (hdg : decode cc pc = .ok (.putfield index, 3))
    (kk : JG p l e R s m args below meth c nL A Q (VW g A (ws.set q0 (a, .inr (ci, fs.set q v)))) cells slots L (pc + 3) st) : JG p l e R s m args below meth c nL A Q (VW g A ws) cells slots L pc (v :: .ref a :: st) :=
  fun H locs ls hW hS hl => va_put C.x C.b C.ts hin ty0 hty hnm C.ow C.k.1 hW.1 hW.2 hS q0 he hc q hq (C.ts _ hlink) hsame hfin hd hn hfit hlf hdg (fun H1 l1 hP hD hS1 => kk H1 l1 ls ⟨hP, hD⟩ hS1 hl)
theorem k_aald (C : Cx p s m args meth c cc nL own ret Ts g) {q0 a n : Nat} {f : Nat → Option Nat} {i : Int32} (ha : ws[q0]? = some (a, aR g 4 n f)) (hin : vp_in i n) (hdg : decode cc pc = .ok (.aaload, 1))
    (kk : JG p l e R s m args below meth c nL A Q (VW g A ws) cells slots L (pc + 1) (va_rf (f i.toNatClampNeg) :: st)) : JG p l e R s m args below meth c nL A Q (VW g A ws) cells slots L pc (.int i :: .ref a :: st) :=
  fun H locs ls hW hS hl => va_aldq C.x C.b C.k.1 hW.1 q0 4 ha rfl hin hdg (kk H locs ls hW hS hl)
theorem k_aastN (C : Cx p s m args meth c cc nL own ret Ts g) {q0 a n : Nat} {f : Nat → Option Nat} {i : Int32} (ha : ws[q0]? = some (a, aR g 4 n f)) (hin : vp_in i n) (hdg : decode cc pc = .ok (.aastore, 1))
    (kk : JG p l e R s m args below meth c nL A Q (VW g A (ws.set q0 (a, aR g 4 n (va_up f i.toNatClampNeg none)))) cells slots L (pc + 1) st) : JG p l e R s m args below meth c nL A Q (VW g A ws) cells slots L pc (.null :: .int i :: .ref a :: st) :=
  fun H locs ls hW hS hl => va_astqN C.x C.b C.k.1 hW.1 hW.2 hS q0 4 ha rfl hin hdg (fun H1 l1 hP hD hS1 => kk H1 l1 ls ⟨hP, hD⟩ hS1 hl)
/-- the elements: objects of one class, that lie outside -/
def EL (s : State) (A : Nat → Prop) (Cn : String) (Y : Nat → Prop) : Prop := ∀ y : Nat, Y y → (∃ cell : Cell, s.heap[y]? = some cell ∧ cell.vm.isStatics = false ∧ s.vm.findClass Cn = some cell.cls) ∧ ¬ A y
theorem EL.at {H : Heap} {locs : List Loc} (h : EL s A Cn Y) (hS : va_S A s.heap H locs) {y : Nat} (hy : Y y) : ∃ cell : Cell, H[y]? = some cell ∧ cell.vm.isStatics = false ∧ s.vm.findClass Cn = some cell.cls := by
  obtain ⟨⟨cell, h1, h2, h3⟩, h4⟩ := h y hy
  exact ⟨cell, by rw [hS.2.1 y (Array.getElem?_eq_some_iff.mp h1).1 h4]; exact h1, h2, h3⟩
theorem asg_of {C T : String} (h : va_Nw (.castable C T) s) : ∀ comp c0 : ClassId, s.vm.findClass T = some comp → s.vm.findClass C = some c0 → s.vm.assignable c0 comp = true := by
  intro comp c0 h1 h2
  obtain ⟨c1, t1, f1, f2, f3⟩ := Cond.castable_spec (va_Nw.use (A := #[]) rfl h)
  cases h2.symm.trans f1
  cases h1.symm.trans f2
  exact f3
theorem k_aastO (C : Cx p s m args meth c cc nL own ret Ts g) (hel : EL s A Cn Y) (hca : (Cn, "java/lang/Object") ∈ caL) {q0 a n v : Nat} {f : Nat → Option Nat} {i : Int32} (hy : Y v) (ha : ws[q0]? = some (a, aR g 4 n f)) (hin : vp_in i n) (hdg : decode cc pc = .ok (.aastore, 1))
    (kk : JG p l e R s m args below meth c nL A Q (VW g A (ws.set q0 (a, aR g 4 n (va_up f i.toNatClampNeg (some v))))) cells slots L (pc + 1) st) : JG p l e R s m args below meth c nL A Q (VW g A ws) cells slots L pc (.ref v :: .int i :: .ref a :: st) := by
  intro H locs ls hW hS hl
  obtain ⟨cell, h1, h2, h3⟩ := hel.at hS hy
  obtain ⟨kC, hkC, -⟩ := Vm.findClass_spec h3
  exact va_astqM C.x C.b C.k.1 hW.1 hW.2 hS q0 4 ha rfl ⟨cell, h1, h2, ⟨kC, hkC⟩, fun comp h => asg_of (C.k.2.2.1 _ hca) comp _ h h3⟩ hin hdg (fun H1 l1 hP hD hS1 => kk H1 l1 ls ⟨hP, hD⟩ hS1 hl)
theorem k_alen (C : Cx p s m args meth c cc nL own ret Ts g) {q0 a n : Nat} {f : Nat → Option Nat} (ha : ws[q0]? = some (a, aR g 4 n f)) (hdg : decode cc pc = .ok (.arraylength, 1))
    (kk : JG p l e R s m args below meth c nL A Q (VW g A ws) cells slots L (pc + 1) (.int (nI n) :: st)) : JG p l e R s m args below meth c nL A Q (VW g A ws) cells slots L pc (.ref a :: st) :=
  fun H locs ls hW hS hl => va_alen C.x C.b C.k.1 hW.1 q0 4 ha rfl rfl hdg (kk H locs ls hW hS hl)
theorem k_alen0 (C : Cx p s m args meth c cc nL own ret Ts g) (hAB : ∀ q, A q → geB g q) (hdg : decode cc pc = .ok (.arraylength, 1))
    (kk : JG p l e R s m args below meth c nL A Q (VW g A ws) cells slots L (pc + 1) (.int (nI 0) :: st)) : JG p l e R s m args below meth c nL A Q (VW g A ws) cells slots L pc (.ref g.2.2.1 :: st) :=
  fun H locs ls hW hS hl => va_tlen C.x C.b (va_T.narrow C.z.2 hAB) hS rfl hdg (kk H locs ls hW hS hl)
theorem k_gets (C : Cx p s m args meth c cc nL own ret Ts g) (hAB : ∀ q, A q → geB g q) {index : Nat} (hlink : Cond.fieldLink own index "java/util/ArrayList" "DEFAULTCAPACITY_EMPTY_ELEMENTDATA" "[Ljava/lang/Object;" ∈ Ts) (hdg : decode cc pc = .ok (.getstatic index, 3))
    (kk : JG p l e R s m args below meth c nL A Q (VW g A ws) cells slots L (pc + 3) (.ref g.2.2.1 :: st)) : JG p l e R s m args below meth c nL A Q (VW g A ws) cells slots L pc st :=
  fun H locs ls hW hS hl => va_gets C.x C.b (va_Z.narrow C.z.1 hAB) hS C.ow (C.ts _ hlink) (fun _ h => h) hdg (kk H locs ls hW hS hl)
/-- all arrays of Object have one class -/
theorem k_cls (C : Cx p s m args meth c cc nL own ret Ts g) {cA : ClassId} (h : va_RA s cA (.object "java/lang/Object")) : cA = g.2.1 4 := by
  obtain ⟨-, -, -, -, -, h4⟩ := h
  obtain ⟨-, -, -, -, -, k4⟩ := (C.k.1.2 4 _ rfl).2
  exact Option.some.inj (h4.symm.trans k4)
theorem k_newq (C : Cx p s m args meth c cc nL own ret Ts g) (hAf : ∀ q, s.heap.size ≤ q → A q) {index : Nat} (hclink : Cond.classLink own index "java/lang/Object" ∈ Ts) {n : Int32} {N' : Nat} (hn : ¬ n < 0) (hN : n.toNatClampNeg = N') (hbytes : N' * 4 ≤ 536870912) (hcells : cells + 1 ≤ R.cells) (hslots : slots + N' ≤ R.slots) (hdg : decode cc pc = .ok (.anewarray index, 3))
    (kk : ∀ q : Nat, JG p l e R s m args below meth c nL A Q (VW g A (ws ++ [(q, aR g 4 N' (fun _ => none))])) (cells + 1) (slots + N') L (pc + 3) (.ref q :: st)) : JG p l e R s m args below meth c nL A Q (VW g A ws) cells slots L pc (.int n :: st) := by
  intro H locs ls hW hS hl
  refine va_newq C.x C.b C.ow (C.ts _ hclink) C.k.2.2.2.2.2.1 C.k.1 hW.1 hW.2 hS hAf hn hN hbytes hcells hslots hdg (fun q cA H1 hK1 hP hD hS1 => ?_)
  have e : cA = g.2.1 4 := k_cls C (hK1.2 6 _ rfl).2
  subst e
  exact kk q H1 locs ls ⟨hP, hD⟩ hS1 hl
theorem k_copy (C : Cx p s m args meth c cc nL own ret Ts g) (hel : EL s A Cn Y) (hca : (Cn, "java/lang/Object") ∈ caL) {index q0 q1 a0 a n0 n1 : Nat} {f h : Nat → Option Nat} (hlink : Cond.methodLink own index arraycopyName ∈ Ts) (hnat : Cond.native arraycopyName ∈ Ts) (hstat : Cond.static arraycopyName ∈ Ts) (hini : Cond.initialized "java/lang/System" ∈ Ts)
    (ha0 : ws[q0]? = some (a0, aR g 4 n0 f)) (ha1 : ws[q1]? = some (a, aR g 4 n1 h)) {sp dp n : Int32} (h1 : ¬ sp < 0) (h2 : ¬ dp < 0) (h3 : ¬ n < 0) (h4 : sp.toNatClampNeg + n.toNatClampNeg ≤ n0) (h5 : dp.toNatClampNeg + n.toNatClampNeg ≤ n1) (hfy : ∀ i : Nat, i < n.toNatClampNeg → ∀ y : Nat, f (sp.toNatClampNeg + i) = some y → Y y) (hframes : 1 ≤ R.frames) (hlocals : (st.map fun v => v.category).sum + (nativeFrameWords "java/lang/System" "arraycopy" 5 + 11) ≤ R.locals) (hdg : decode cc pc = .ok (.invokestatic index, 3))
    (kk : JG p l e R s m args below meth c nL A Q (VW g A (ws.set q1 (a, aR g 4 n1 (va_cpy f h sp.toNatClampNeg dp.toNatClampNeg n.toNatClampNeg)))) cells slots L (pc + 3) st) : JG p l e R s m args below meth c nL A Q (VW g A ws) cells slots L pc (.int n :: .int dp :: .ref a :: .int sp :: .ref a0 :: st) :=
  fun H locs ls hW hS hl => va_copyq C.x C.b (C.ml.trans hl.1.symm) C.ow (C.ts _ hlink) (C.ts _ hnat) (C.ts _ hstat) (C.ts _ hini) C.k.1 hW.1 hW.2 hS q0 q1 4 4 ha0 ha1 rfl rfl h1 h2 h3 h4 h5 (fun i hi y hy => hel.at hS (hfy i hi y hy)) (asg_of (C.k.2.2.1 _ hca)) hframes hlocals hdg (fun H1 l1 hP hD hS1 => kk H1 l1 ls ⟨hP, hD⟩ hS1 hl)
/-! contracts over a list's world -/
def PreL (g : Gc) (ws : va_W) (sz : Nat) (Cn : String) (Y : Nat → Prop) (av : List Value) : Array Value → State → Prop :=
  va_Pc av (fun U => CK g U ∧ CZ g U U.heap ∧ U.heap.size = sz ∧ g.2.2.2 ≤ sz ∧ va_P g.1 vwCl ws U.heap ∧ va_D (geB g) ws ∧ EL U (va_A ws sz) Cn Y)
def PoLr (g : Gc) (ok : va_W → Nat → Prop) (A : Nat → Prop) : Array Value → State → Outcome → State → Prop := va_Qr (S := va_W) (fun _ => True) (fun ws q t => ok ws q ∧ VW g A ws t.heap) A
def PoLv (g : Gc) (ok : va_W → Prop) (A : Nat → Prop) : Array Value → State → Outcome → State → Prop := va_Qv (S := va_W) ok (fun ws t => VW g A ws t.heap) A
def PoLi (g : Gc) (ok : Int32 → va_W → Prop) (A : Nat → Prop) : Array Value → State → Outcome → State → Prop := va_Qi (S := va_W) ok (fun ws t => VW g A ws t.heap) A
theorem fb_preL {sz : Nat} {av : List Value} : FrameBlind (PreL g ws sz Cn Y av) := fun _ U f mk h => ⟨h.1, CK.same (u := U) (U := U.calling f mk _) rfl h.2.1, CZ.moved (s := U) (U := U.calling f mk _) (Vm.Alike.refl U.vm) h.2.2.1 (fun _ _ _ => rfl), h.2.2.2.1, h.2.2.2.2.1, h.2.2.2.2.2.1, h.2.2.2.2.2.2.1, h.2.2.2.2.2.2.2⟩
theorem vaA_in {g : Gc} {ws : va_W} {sz : Nat} (hb : g.2.2.2 ≤ sz) (hD : va_D (geB g) ws) : ∀ q, va_A ws sz q → geB g q := by
  intro q h
  rcases h with ⟨k, e, h⟩ | h
  · exact hD.2 k _ h
  · exact Nat.le_trans hb h
theorem k_met {l : Launch} {g : Gc} {ws : va_W} {sz : Nat} {Cn : String} {Y : Nat → Prop} {y : MethodName} {rm : Room} {av : List Value} {Qc : Array Value → State → Outcome → State → Prop} {mc ms : Nat} {cc : ByteArray} {maxL : Nat} {ret : Option FieldType}
    (hy : plainName y.cls = true) (hlen : (lg_sl av).length ≤ maxL)
    (body : ∀ (p : Program) (e : Env) (s : State) (m : MethodId) (below : List Frame) (meth : Method) (c : Code), Cx p s m av.toArray meth c cc maxL y.cls ret COM g → (∀ q, va_A ws sz q → geB g q) → (∀ q, s.heap.size ≤ q → va_A ws sz q) → EL s (va_A ws sz) Cn Y →
      JG p l e rm s m av.toArray below meth c maxL (va_A ws sz) (MQ below Qc av.toArray s mc ms (va_A ws sz)) (VW g (va_A ws sz) ws) 0 0 (lv_args 0 av) 0 []) : Met l y (WS y cc maxL ret) rm (PreL g ws sz Cn Y av) Qc mc ms (va_A ws sz) := by
  refine Met.ofW (cc := cc) (maxL := maxL) (ret := ret) hy rfl ?_
  intro p e s m args below meth c s₁ B hml hv
  obtain ⟨rfl, hk, hz, hsz, hbs, hP, hD, hel⟩ := hv
  have hl := lv_entry av (n := maxL) hlen
  rw [lg_entry_eq]
  have hts := atoms_spec (ws := WS y cc maxL ret) B.pre
  exact body p e s m below meth c ⟨B.exec, B.bytes, hml, findClass_of_methodNamed B.named, fun w hw => hts w (List.mem_cons_of_mem _ hw), hk, hz, B.returns, B.notSynchronized, by rw [hsz]; exact hbs⟩ (vaA_in hbs hD) (fun q h => Or.inr (by rw [← hsz]; exact h)) hel s.heap [] _ ⟨hP, hD.self⟩ va_S.rf hl
theorem k_rret (C : Cx p s m args meth c cc nL own ret Ts g) {ok : va_W → Nat → Prop} {mc ms q : Nat} {rt : FieldType} (hr : ret = some rt) (hrt : (∃ n, rt = .object n) ∨ ∃ t, rt = .array t) (hok : ok ws q) (hc : cells ≤ mc) (hs : slots ≤ ms) (hdg : decode cc pc = .ok (.areturn, 1)) :
    JG p l e R s m args below meth c nL A (MQ below (PoLr g ok A) args s mc ms A) (VW g A ws) cells slots L pc [.ref q] := by
  intro H locs ls hW hS hl
  refine W.widen hc hs ?_
  exact W.aret C.x C.b (C.r.trans hr) hrt (Or.inr ⟨q, rfl⟩) (fun t ht hw => ⟨⟨ws, q, rfl, trivial, hok, (show VW g A ws t.heap by rw [ht]; exact hW)⟩, hS.F ht⟩) hS.2.2 hdg C.lk
theorem k_vret (C : Cx p s m args meth c cc nL own ret Ts g) {ok : va_W → Prop} {mc ms : Nat} (hr : ret = none) (hok : ok ws) (hc : cells ≤ mc) (hs : slots ≤ ms) (hdg : decode cc pc = .ok (.return_, 1)) :
    JG p l e R s m args below meth c nL A (MQ below (PoLv g ok A) args s mc ms A) (VW g A ws) cells slots L pc [] := by
  intro H locs ls hW hS hl
  refine W.widen hc hs ?_
  exact W.vret C.x C.b (C.r.trans hr) (fun t ht hw => ⟨⟨ws, rfl, hok, (show VW g A ws t.heap by rw [ht]; exact hW)⟩, hS.F ht⟩) hS.2.2 hdg C.lk
theorem k_iret (C : Cx p s m args meth c cc nL own ret Ts g) {ok : Int32 → va_W → Prop} {mc ms : Nat} {v : Int32} {ty : FieldType} (hr : ret = some ty) (hn : narrow ty (.int v) = .int v) (hok : ok v ws) (hc : cells ≤ mc) (hs : slots ≤ ms) (hdg : decode cc pc = .ok (.ireturn, 1)) :
    JG p l e R s m args below meth c nL A (MQ below (PoLi g ok A) args s mc ms A) (VW g A ws) cells slots L pc [.int v] := by
  intro H locs ls hW hS hl
  refine W.widen hc hs ?_
  exact W.zret C.x C.b (C.r.trans hr) hn (fun t ht hw => ⟨⟨v, ws, rfl, hok, (show VW g A ws t.heap by rw [ht]; exact hW)⟩, hS.F ht⟩) hS.2.2 hdg C.lk
theorem k_pre (C : Cx p s m args meth c cc nL own ret Ts g) (hAB : ∀ q, A q → geB g q) (hAf : ∀ q, s.heap.size ≤ q → A q) (hel : EL s A Cn Y) {H : Heap} {locs : List Loc} (hW : VW g A ws H) (hS : va_S A s.heap H locs) {av : List Value} {U : State} (hU : U.heap = H) (hw : s.WarmedH U.vm) : PreL g ws H.size Cn Y av av.toArray U := by
  refine ⟨rfl, CK.warm hw C.k, by rw [hU]; exact CZ.moved hw.alike C.z (fun a h1 h2 => hS.2.1 a h1 (fun q => h2 (hAB a q))), by rw [hU], Nat.le_trans C.bs hS.1, by rw [hU]; exact hW.1, hW.2.weaken (fun _ q _ h => hAB q.1 h), fun y hy => ?_⟩
  obtain ⟨cell, h1, h2, h3⟩ := hel.at hS hy
  refine ⟨⟨cell, by rw [hU]; exact h1, h2, by rw [hw.alike.findClass]; exact h3⟩, ?_⟩
  intro hq
  rcases hq with ⟨k, e2, hq⟩ | hq
  · exact (hel y hy).2 (hW.2.2 k _ hq)
  · exact absurd (Array.getElem?_eq_some_iff.mp h1).1 (by omega)
theorem vaA_sub (hAf : ∀ q, s.heap.size ≤ q → A q) {H : Heap} {locs : List Loc} (hW : VW g A ws H) (hS : va_S A s.heap H locs) : ∀ q, va_A ws H.size q → A q := by
  intro q h
  rcases h with ⟨k, e, h⟩ | h
  · exact hW.2.2 k _ h
  · exact hAf q (Nat.le_trans hS.1 h)
theorem k_rv (C : Cx p s m args meth c cc nL own ret Ts g) {H : Heap} (hW : VW g A ws H) {q0 a ci : Nat} {fs : List Value} {q : vw_C} (he : ws[q0]? = some (a, .inr (ci, fs))) (hc : vwCl[ci]? = some q) : ∃ cell : Cell, H[a]? = some cell ∧ cell.vm.isStatics = false ∧ s.vm.findClass q.1 = some cell.cls := va_recv C.k.1 hW.1 hc he
theorem k_callVr (C : Cx p s m args meth c cc nL own ret Ts g) (hAB : ∀ q, A q → geB g q) (hAf : ∀ q, s.heap.size ≤ q → A q) (hel : EL s A Cn Y) {y : MethodName} {bytes : ByteArray} {maxL mc ms n index : Nat} {rt : FieldType} {wd : List Cond} {rm : Room} {b q0 ci : Nat} {fs As rest : List Value} {qc : vw_C} {ok : va_W → Nat → Prop} (hM : ∀ sz, Met l y wd rm (PreL g ws sz Cn Y (.ref b :: As)) (PoLr g ok (va_A ws sz)) mc ms (va_A ws sz)) (cw : CallW R s args own qc.1 index y bytes maxL (some rt) wd rm mc ms n) (he : ws[q0]? = some (b, .inr (ci, fs))) (hc : vwCl[ci]? = some qc) (hn : As.length = n) (hst : st = As.reverse ++ .ref b :: rest) (hW8 : (rest.map fun v => v.category).sum ≤ 8) (hdg : decode cc pc = .ok (.invokevirtual index, 3)) (hf : cells + mc ≤ R.cells ∧ slots + ms ≤ R.slots)
    (kk : ∀ (ws' : va_W) (q : Nat), ok ws' q → JG p l e R s m args below meth c nL A Q (VW g A ws') (cells + mc) (slots + ms) L (pc + 3) (.ref q :: rest)) : JG p l e R s m args below meth c nL A Q (VW g A ws) cells slots L pc st := by
  intro H locs ls hW hS hl
  have hsub := vaA_sub hAf hW hS
  refine va_callr (va_runV (As := As) (rest := rest) C.fix (hM H.size) cw ⟨fb_preL, k_rv C hW he hc, fun U hU hw => k_pre C hAB hAf hel hW hS hU hw⟩ rfl hn hl.1 hst (lv_room hW8) hdg hf) hS (fun q _ h => hsub q h) hsub (fun u ra t H1 locs1 ht hvm hp hB hz hk hS1 => ?_)
  obtain ⟨hok, hP, hD⟩ := hB
  rw [ht] at hP
  exact kk u ra hok H1 locs1 ls ⟨hP, hD.weaken (fun _ q _ h => hsub q.1 h)⟩ hS1 hl
theorem k_callVv (C : Cx p s m args meth c cc nL own ret Ts g) (hAB : ∀ q, A q → geB g q) (hAf : ∀ q, s.heap.size ≤ q → A q) (hel : EL s A Cn Y) {y : MethodName} {bytes : ByteArray} {maxL mc ms n index : Nat} {wd : List Cond} {rm : Room} {b q0 ci : Nat} {fs As rest : List Value} {qc : vw_C} {ok : va_W → Prop} (hM : ∀ sz, Met l y wd rm (PreL g ws sz Cn Y (.ref b :: As)) (PoLv g ok (va_A ws sz)) mc ms (va_A ws sz)) (cw : CallW R s args own qc.1 index y bytes maxL none wd rm mc ms n) (he : ws[q0]? = some (b, .inr (ci, fs))) (hc : vwCl[ci]? = some qc) (hn : As.length = n) (hst : st = As.reverse ++ .ref b :: rest) (hW8 : (rest.map fun v => v.category).sum ≤ 8) (hdg : decode cc pc = .ok (.invokevirtual index, 3)) (hf : cells + mc ≤ R.cells ∧ slots + ms ≤ R.slots)
    (kk : ∀ ws' : va_W, ok ws' → JG p l e R s m args below meth c nL A Q (VW g A ws') (cells + mc) (slots + ms) L (pc + 3) rest) : JG p l e R s m args below meth c nL A Q (VW g A ws) cells slots L pc st := by
  intro H locs ls hW hS hl
  have hsub := vaA_sub hAf hW hS
  refine va_callv (va_runV (As := As) (rest := rest) C.fix (hM H.size) cw ⟨fb_preL, k_rv C hW he hc, fun U hU hw => k_pre C hAB hAf hel hW hS hU hw⟩ rfl hn hl.1 hst (lv_room hW8) hdg hf) hS (fun q _ h => hsub q h) hsub (fun u t H1 locs1 ht hvm hp hB hz hk hS1 => ?_)
  obtain ⟨hP, hD⟩ := hB
  rw [ht] at hP
  exact kk u hp H1 locs1 ls ⟨hP, hD.weaken (fun _ q _ h => hsub q.1 h)⟩ hS1 hl
theorem k_callSr (C : Cx p s m args meth c cc nL own ret Ts g) (hAB : ∀ q, A q → geB g q) (hAf : ∀ q, s.heap.size ≤ q → A q) (hel : EL s A Cn Y) {y : MethodName} {bytes : ByteArray} {maxL mc ms n index : Nat} {rt : FieldType} {wd : List Cond} {rm : Room} {As rest : List Value} {ok : va_W → Nat → Prop} (hM : ∀ sz, Met l y wd rm (PreL g ws sz Cn Y As) (PoLr g ok (va_A ws sz)) mc ms (va_A ws sz)) (cw : CallB R s args own index y bytes maxL (some rt) wd rm mc ms n ∧ (Cond.static y).before args s = true) (hn : As.length = n) (hst : st = As.reverse ++ rest) (hW8 : (rest.map fun v => v.category).sum ≤ 8) (hdg : decode cc pc = .ok (.invokestatic index, 3)) (hf : cells + mc ≤ R.cells ∧ slots + ms ≤ R.slots)
    (kk : ∀ (ws' : va_W) (q : Nat), ok ws' q → JG p l e R s m args below meth c nL A Q (VW g A ws') (cells + mc) (slots + ms) L (pc + 3) (.ref q :: rest)) : JG p l e R s m args below meth c nL A Q (VW g A ws) cells slots L pc st := by
  intro H locs ls hW hS hl
  have hsub := vaA_sub hAf hW hS
  refine va_callr (va_runS (As := As) (rest := rest) C.fix (hM H.size) cw ⟨fb_preL, fun U hU hw => k_pre C hAB hAf hel hW hS hU hw⟩ rfl hn hl.1 hst (lv_room hW8) hdg hf) hS (fun q _ h => hsub q h) hsub (fun u ra t H1 locs1 ht hvm hp hB hz hk hS1 => ?_)
  obtain ⟨hok, hP, hD⟩ := hB
  rw [ht] at hP
  exact kk u ra hok H1 locs1 ls ⟨hP, hD.weaken (fun _ q _ h => hsub q.1 h)⟩ hS1 hl
theorem k_callSi (C : Cx p s m args meth c cc nL own ret Ts g) (hAB : ∀ q, A q → geB g q) (hAf : ∀ q, s.heap.size ≤ q → A q) (hel : EL s A Cn Y) {y : MethodName} {bytes : ByteArray} {maxL mc ms n index : Nat} {rt : FieldType} {wd : List Cond} {rm : Room} {As rest : List Value} {ok : Int32 → va_W → Prop} (hM : ∀ sz, Met l y wd rm (PreL g ws sz Cn Y As) (PoLi g ok (va_A ws sz)) mc ms (va_A ws sz)) (cw : CallB R s args own index y bytes maxL (some rt) wd rm mc ms n ∧ (Cond.static y).before args s = true) (hn : As.length = n) (hst : st = As.reverse ++ rest) (hW8 : (rest.map fun v => v.category).sum ≤ 8) (hdg : decode cc pc = .ok (.invokestatic index, 3)) (hf : cells + mc ≤ R.cells ∧ slots + ms ≤ R.slots)
    (kk : ∀ (r : Int32) (ws' : va_W), ok r ws' → JG p l e R s m args below meth c nL A Q (VW g A ws') (cells + mc) (slots + ms) L (pc + 3) (.int r :: rest)) : JG p l e R s m args below meth c nL A Q (VW g A ws) cells slots L pc st := by
  intro H locs ls hW hS hl
  have hsub := vaA_sub hAf hW hS
  refine va_calli (va_runS (As := As) (rest := rest) C.fix (hM H.size) cw ⟨fb_preL, fun U hU hw => k_pre C hAB hAf hel hW hS hU hw⟩ rfl hn hl.1 hst (lv_room hW8) hdg hf) hS (fun q _ h => hsub q h) hsub (fun r u t H1 locs1 ht hvm hp hB hz hk hS1 => ?_)
  obtain ⟨hP, hD⟩ := hB
  rw [ht] at hP
  exact kk r u hp H1 locs1 ls ⟨hP, hD.weaken (fun _ q _ h => hsub q.1 h)⟩ hS1 hl
end RBL
