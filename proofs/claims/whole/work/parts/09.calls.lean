section RBC
variable {p : Program} {l : Launch} {e : Env} {R : Room} {s : State} {m : MethodId} {args : Array Value} {below : List Frame} {meth : Method} {c : Code} {Q : State → Prop}
variable {cc : ByteArray} {nL : Nat} {own : String} {ret : Option FieldType} {Ts : List Cond} {g : Gc} {ad : Nat → Nat → Nat} {χ χ' : Mem} {T T' : Nat → Mem} {σ σ' : Mem} {cells slots : Nat} {L L' : List (Nat × Value)} {pc : Nat} {st : List Value}
theorem CK.warm {g : Gc} {s U : State} (hw : s.WarmedH U.vm) (h : CK g s) : CK g U := by
  obtain ⟨h1, h2, h3, h4, h5, h6, h7, h8, h9, h10⟩ := h
  refine ⟨va_K.moved hw.alike h1, fun q hq => ?_, fun q hq => ?_, va_Mi.moved hw.alike h4, va_Dc.moved hw.alike h5, va_AO.moved hw.alike h6, va_AO.moved hw.alike h7, fun q hq => ?_, va_Nc.moved hw.alike h9, va_Nc.moved hw.alike h10⟩
  · exact va_Fw.moved (by revert q; decide +kernel) hw.alike (h2 q hq)
  · exact va_Nw.warmC hw (h3 q hq)
  · exact va_Nw.warmM hw (h8 q hq)
theorem CK.same {g : Gc} {u U : State} (hv : u.vm = U.vm) (h : CK g u) : CK g U := by
  obtain ⟨h1, h2, h3, h4, h5, h6, h7, h8, h9, h10⟩ := h
  have ha : u.vm.Alike U.vm := by rw [hv]; exact Vm.Alike.refl U.vm
  refine ⟨va_K.moved ha h1, fun q hq => ?_, fun q hq => ?_, va_Mi.moved ha h4, va_Dc.moved ha h5, va_AO.moved ha h6, va_AO.moved ha h7, fun q hq => ?_, va_Nc.moved ha h9, va_Nc.moved ha h10⟩
  · exact va_Fw.moved (by revert q; decide +kernel) ha (h2 q hq)
  · exact va_Nw.same rfl hv (h3 q hq)
  · exact va_Nw.same rfl hv (h8 q hq)
theorem CZ.moved {g : Gc} {s U : State} {H H1 : Heap} (hvm : s.vm.Alike U.vm) (h : CZ g s H) (hq : ∀ a : Nat, a < H.size → ¬ geB g a → H1[a]? = H[a]?) : CZ g U H1 :=
  ⟨va_Z.moved hvm (va_Z.kept h.1 hq), va_T.moved hvm (va_T.kept h.2 hq)⟩
/-- a state that holds the world -/
def CWs (g : Gc) (ad : Nat → Nat → Nat) (χ : Mem) (T : Nat → Mem) (σ : Mem) (U : State) : Prop := CK g U ∧ CZ g U U.heap ∧ CW g ad χ T σ U.heap
def PreW (g : Gc) (ad : Nat → Nat → Nat) (χ : Mem) (T : Nat → Mem) (σ : Mem) (av : List Value) : Array Value → State → Prop := va_Pc av (CWs g ad χ T σ)
def PoI (g : Gc) (ad : Nat → Nat → Nat) (χ : Mem) (T : Nat → Mem) (σ : Mem) (r0 : Int32) : Array Value → State → Outcome → State → Prop := va_Qi (S := Unit) (fun r _ => r = r0) (fun _ t => CWs g ad χ T σ t) (geB g)
def PoL (g : Gc) (ad : Nat → Nat → Nat) (χ : Mem) (T : Nat → Mem) (σ : Mem) (r0 : Int64) : Array Value → State → Outcome → State → Prop := va_Ql (S := Unit) (fun r _ => r = r0) (fun _ t => CWs g ad χ T σ t) (geB g)
def PoV (g : Gc) (ad : Nat → Nat → Nat) (χ : Mem) (T : Nat → Mem) (σ : Mem) : Array Value → State → Outcome → State → Prop := va_Qv (S := Unit) (fun _ => True) (fun _ t => CWs g ad χ T σ t) (geB g)
def PoR (g : Gc) (ad : Nat → Nat → Nat) (χ : Mem) (T : Nat → Mem) (σ : Mem) (r0 : Option Nat) : Array Value → State → Outcome → State → Prop := va_Qq (S := Unit) (fun r _ => r = r0) (fun _ t => CWs g ad χ T σ t) (geB g)
theorem fb_pre {g : Gc} {ad : Nat → Nat → Nat} {χ : Mem} {T : Nat → Mem} {σ : Mem} {av : List Value} : FrameBlind (PreW g ad χ T σ av) := fun _ U f mk h => ⟨h.1, CK.same (u := U) (U := U.calling f mk _) rfl h.2.1, CZ.moved (s := U) (U := U.calling f mk _) (Vm.Alike.refl U.vm) h.2.2.1 (fun _ _ _ => rfl), h.2.2.2⟩
theorem j_pre (C : Cx p s m args meth c cc nL own ret Ts g) {H : Heap} {locs : List Loc} (hW : CW g ad χ T σ H) (hS : va_S (geB g) s.heap H locs) {U : State} (hU : U.heap = H) (hw : s.WarmedH U.vm) : CWs g ad χ T σ U :=
  ⟨CK.warm hw C.k, by rw [hU]; exact CZ.moved hw.alike C.z (fun a h1 h2 => hS.2.1 a h1 h2), by rw [hU]; exact hW⟩

theorem j_callVi (C : Cx p s m args meth c cc nL own ret Ts g) {y : MethodName} {bytes : ByteArray} {maxL mc ms n index : Nat} {rt : FieldType} {ws : List Cond} {rm : Room} {b : Nat} {As rest : List Value} {r0 : Int32} {Cn : String} (hM : Met l y ws rm (PreW g ad χ T σ (.ref b :: As)) (PoI g ad χ' T' σ' r0) mc ms (geB g)) (cw : CallW R s args own Cn index y bytes maxL (some rt) ws rm mc ms n) (hrv : ∀ H, CW g ad χ T σ H → ∃ cellB : Cell, H[b]? = some cellB ∧ cellB.vm.isStatics = false ∧ s.vm.findClass Cn = some cellB.cls) (hn : As.length = n) (hst : st = As.reverse ++ .ref b :: rest) (hW8 : (rest.map fun v => v.category).sum ≤ 8) (hdg : decode cc pc = .ok (.invokevirtual index, 3)) (hf : cells + mc ≤ R.cells ∧ slots + ms ≤ R.slots)
    (kk : JJ p l e R s m args below meth c nL g ad Q χ' T' σ' (cells + mc) (slots + ms) L (pc + 3) (.int r0 :: rest)) : JJ p l e R s m args below meth c nL g ad Q χ T σ cells slots L pc st := by
  intro H locs ls hW hS hl
  refine va_calli (va_runV (As := As) (rest := rest) C.fix hM cw ⟨fb_pre, hrv H hW, fun U hU hw => ⟨rfl, j_pre C hW hS hU hw⟩⟩ rfl hn hl.1 hst (lv_room hW8) hdg hf) hS (fun q _ h => h) (fun q h => h) (fun r u t H1 locs1 ht hvm hp hB hz hk hS1 => ?_)
  subst hp
  obtain ⟨-, -, hW1⟩ := hB
  rw [ht] at hW1
  exact kk H1 locs1 ls hW1 hS1 hl
theorem j_callVl (C : Cx p s m args meth c cc nL own ret Ts g) {y : MethodName} {bytes : ByteArray} {maxL mc ms n index : Nat} {rt : FieldType} {ws : List Cond} {rm : Room} {b : Nat} {As rest : List Value} {r0 : Int64} {Cn : String} (hM : Met l y ws rm (PreW g ad χ T σ (.ref b :: As)) (PoL g ad χ' T' σ' r0) mc ms (geB g)) (cw : CallW R s args own Cn index y bytes maxL (some rt) ws rm mc ms n) (hrv : ∀ H, CW g ad χ T σ H → ∃ cellB : Cell, H[b]? = some cellB ∧ cellB.vm.isStatics = false ∧ s.vm.findClass Cn = some cellB.cls) (hn : As.length = n) (hst : st = As.reverse ++ .ref b :: rest) (hW8 : (rest.map fun v => v.category).sum ≤ 8) (hdg : decode cc pc = .ok (.invokevirtual index, 3)) (hf : cells + mc ≤ R.cells ∧ slots + ms ≤ R.slots)
    (kk : JJ p l e R s m args below meth c nL g ad Q χ' T' σ' (cells + mc) (slots + ms) L (pc + 3) (.long r0 :: rest)) : JJ p l e R s m args below meth c nL g ad Q χ T σ cells slots L pc st := by
  intro H locs ls hW hS hl
  refine va_calll (va_runV (As := As) (rest := rest) C.fix hM cw ⟨fb_pre, hrv H hW, fun U hU hw => ⟨rfl, j_pre C hW hS hU hw⟩⟩ rfl hn hl.1 hst (lv_room hW8) hdg hf) hS (fun q _ h => h) (fun q h => h) (fun r u t H1 locs1 ht hvm hp hB hz hk hS1 => ?_)
  subst hp
  obtain ⟨-, -, hW1⟩ := hB
  rw [ht] at hW1
  exact kk H1 locs1 ls hW1 hS1 hl
theorem j_callVv (C : Cx p s m args meth c cc nL own ret Ts g) {y : MethodName} {bytes : ByteArray} {maxL mc ms n index : Nat} {ws : List Cond} {rm : Room} {b : Nat} {As rest : List Value} {Cn : String} (hM : Met l y ws rm (PreW g ad χ T σ (.ref b :: As)) (PoV g ad χ' T' σ' ) mc ms (geB g)) (cw : CallW R s args own Cn index y bytes maxL none ws rm mc ms n) (hrv : ∀ H, CW g ad χ T σ H → ∃ cellB : Cell, H[b]? = some cellB ∧ cellB.vm.isStatics = false ∧ s.vm.findClass Cn = some cellB.cls) (hn : As.length = n) (hst : st = As.reverse ++ .ref b :: rest) (hW8 : (rest.map fun v => v.category).sum ≤ 8) (hdg : decode cc pc = .ok (.invokevirtual index, 3)) (hf : cells + mc ≤ R.cells ∧ slots + ms ≤ R.slots)
    (kk : JJ p l e R s m args below meth c nL g ad Q χ' T' σ' (cells + mc) (slots + ms) L (pc + 3) (rest)) : JJ p l e R s m args below meth c nL g ad Q χ T σ cells slots L pc st := by
  intro H locs ls hW hS hl
  refine va_callv (va_runV (As := As) (rest := rest) C.fix hM cw ⟨fb_pre, hrv H hW, fun U hU hw => ⟨rfl, j_pre C hW hS hU hw⟩⟩ rfl hn hl.1 hst (lv_room hW8) hdg hf) hS (fun q _ h => h) (fun q h => h) (fun u t H1 locs1 ht hvm hp hB hz hk hS1 => ?_)
  skip
  obtain ⟨-, -, hW1⟩ := hB
  rw [ht] at hW1
  exact kk H1 locs1 ls hW1 hS1 hl
theorem j_callVq (C : Cx p s m args meth c cc nL own ret Ts g) {y : MethodName} {bytes : ByteArray} {maxL mc ms n index : Nat} {rt : FieldType} {ws : List Cond} {rm : Room} {b : Nat} {As rest : List Value} {r0 : Option Nat} {Cn : String} (hM : Met l y ws rm (PreW g ad χ T σ (.ref b :: As)) (PoR g ad χ' T' σ' r0) mc ms (geB g)) (cw : CallW R s args own Cn index y bytes maxL (some rt) ws rm mc ms n) (hrv : ∀ H, CW g ad χ T σ H → ∃ cellB : Cell, H[b]? = some cellB ∧ cellB.vm.isStatics = false ∧ s.vm.findClass Cn = some cellB.cls) (hn : As.length = n) (hst : st = As.reverse ++ .ref b :: rest) (hW8 : (rest.map fun v => v.category).sum ≤ 8) (hdg : decode cc pc = .ok (.invokevirtual index, 3)) (hf : cells + mc ≤ R.cells ∧ slots + ms ≤ R.slots)
    (kk : JJ p l e R s m args below meth c nL g ad Q χ' T' σ' (cells + mc) (slots + ms) L (pc + 3) (va_rf r0 :: rest)) : JJ p l e R s m args below meth c nL g ad Q χ T σ cells slots L pc st := by
  intro H locs ls hW hS hl
  refine va_callq (va_runV (As := As) (rest := rest) C.fix hM cw ⟨fb_pre, hrv H hW, fun U hU hw => ⟨rfl, j_pre C hW hS hU hw⟩⟩ rfl hn hl.1 hst (lv_room hW8) hdg hf) hS (fun q _ h => h) (fun q h => h) (fun r u t H1 locs1 ht hvm hp hB hz hk hS1 => ?_)
  subst hp
  obtain ⟨-, -, hW1⟩ := hB
  rw [ht] at hW1
  exact kk H1 locs1 ls hW1 hS1 hl
theorem j_callSi (C : Cx p s m args meth c cc nL own ret Ts g) {y : MethodName} {bytes : ByteArray} {maxL mc ms n index : Nat} {rt : FieldType} {ws : List Cond} {rm : Room} {As rest : List Value} {r0 : Int32} (hM : Met l y ws rm (PreW g ad χ T σ As) (PoI g ad χ' T' σ' r0) mc ms (geB g)) (cw : CallB R s args own index y bytes maxL (some rt) ws rm mc ms n ∧ (Cond.static y).before args s = true) (hn : As.length = n) (hst : st = As.reverse ++ rest) (hW8 : (rest.map fun v => v.category).sum ≤ 8) (hdg : decode cc pc = .ok (.invokestatic index, 3)) (hf : cells + mc ≤ R.cells ∧ slots + ms ≤ R.slots)
    (kk : JJ p l e R s m args below meth c nL g ad Q χ' T' σ' (cells + mc) (slots + ms) L (pc + 3) (.int r0 :: rest)) : JJ p l e R s m args below meth c nL g ad Q χ T σ cells slots L pc st := by
  intro H locs ls hW hS hl
  refine va_calli (va_runS (As := As) (rest := rest) C.fix hM cw ⟨fb_pre, fun U hU hw => ⟨rfl, j_pre C hW hS hU hw⟩⟩ rfl hn hl.1 hst (lv_room hW8) hdg hf) hS (fun q _ h => h) (fun q h => h) (fun r u t H1 locs1 ht hvm hp hB hz hk hS1 => ?_)
  subst hp
  obtain ⟨-, -, hW1⟩ := hB
  rw [ht] at hW1
  exact kk H1 locs1 ls hW1 hS1 hl
theorem j_callSl (C : Cx p s m args meth c cc nL own ret Ts g) {y : MethodName} {bytes : ByteArray} {maxL mc ms n index : Nat} {rt : FieldType} {ws : List Cond} {rm : Room} {As rest : List Value} {r0 : Int64} (hM : Met l y ws rm (PreW g ad χ T σ As) (PoL g ad χ' T' σ' r0) mc ms (geB g)) (cw : CallB R s args own index y bytes maxL (some rt) ws rm mc ms n ∧ (Cond.static y).before args s = true) (hn : As.length = n) (hst : st = As.reverse ++ rest) (hW8 : (rest.map fun v => v.category).sum ≤ 8) (hdg : decode cc pc = .ok (.invokestatic index, 3)) (hf : cells + mc ≤ R.cells ∧ slots + ms ≤ R.slots)
    (kk : JJ p l e R s m args below meth c nL g ad Q χ' T' σ' (cells + mc) (slots + ms) L (pc + 3) (.long r0 :: rest)) : JJ p l e R s m args below meth c nL g ad Q χ T σ cells slots L pc st := by
  intro H locs ls hW hS hl
  refine va_calll (va_runS (As := As) (rest := rest) C.fix hM cw ⟨fb_pre, fun U hU hw => ⟨rfl, j_pre C hW hS hU hw⟩⟩ rfl hn hl.1 hst (lv_room hW8) hdg hf) hS (fun q _ h => h) (fun q h => h) (fun r u t H1 locs1 ht hvm hp hB hz hk hS1 => ?_)
  subst hp
  obtain ⟨-, -, hW1⟩ := hB
  rw [ht] at hW1
  exact kk H1 locs1 ls hW1 hS1 hl
theorem j_callSv (C : Cx p s m args meth c cc nL own ret Ts g) {y : MethodName} {bytes : ByteArray} {maxL mc ms n index : Nat} {ws : List Cond} {rm : Room} {As rest : List Value} (hM : Met l y ws rm (PreW g ad χ T σ As) (PoV g ad χ' T' σ' ) mc ms (geB g)) (cw : CallB R s args own index y bytes maxL none ws rm mc ms n ∧ (Cond.static y).before args s = true) (hn : As.length = n) (hst : st = As.reverse ++ rest) (hW8 : (rest.map fun v => v.category).sum ≤ 8) (hdg : decode cc pc = .ok (.invokestatic index, 3)) (hf : cells + mc ≤ R.cells ∧ slots + ms ≤ R.slots)
    (kk : JJ p l e R s m args below meth c nL g ad Q χ' T' σ' (cells + mc) (slots + ms) L (pc + 3) (rest)) : JJ p l e R s m args below meth c nL g ad Q χ T σ cells slots L pc st := by
  intro H locs ls hW hS hl
  refine va_callv (va_runS (As := As) (rest := rest) C.fix hM cw ⟨fb_pre, fun U hU hw => ⟨rfl, j_pre C hW hS hU hw⟩⟩ rfl hn hl.1 hst (lv_room hW8) hdg hf) hS (fun q _ h => h) (fun q h => h) (fun u t H1 locs1 ht hvm hp hB hz hk hS1 => ?_)
  skip
  obtain ⟨-, -, hW1⟩ := hB
  rw [ht] at hW1
  exact kk H1 locs1 ls hW1 hS1 hl
theorem j_callSq (C : Cx p s m args meth c cc nL own ret Ts g) {y : MethodName} {bytes : ByteArray} {maxL mc ms n index : Nat} {rt : FieldType} {ws : List Cond} {rm : Room} {As rest : List Value} {r0 : Option Nat} (hM : Met l y ws rm (PreW g ad χ T σ As) (PoR g ad χ' T' σ' r0) mc ms (geB g)) (cw : CallB R s args own index y bytes maxL (some rt) ws rm mc ms n ∧ (Cond.static y).before args s = true) (hn : As.length = n) (hst : st = As.reverse ++ rest) (hW8 : (rest.map fun v => v.category).sum ≤ 8) (hdg : decode cc pc = .ok (.invokestatic index, 3)) (hf : cells + mc ≤ R.cells ∧ slots + ms ≤ R.slots)
    (kk : JJ p l e R s m args below meth c nL g ad Q χ' T' σ' (cells + mc) (slots + ms) L (pc + 3) (va_rf r0 :: rest)) : JJ p l e R s m args below meth c nL g ad Q χ T σ cells slots L pc st := by
  intro H locs ls hW hS hl
  refine va_callq (va_runS (As := As) (rest := rest) C.fix hM cw ⟨fb_pre, fun U hU hw => ⟨rfl, j_pre C hW hS hU hw⟩⟩ rfl hn hl.1 hst (lv_room hW8) hdg hf) hS (fun q _ h => h) (fun q h => h) (fun r u t H1 locs1 ht hvm hp hB hz hk hS1 => ?_)
  subst hp
  obtain ⟨-, -, hW1⟩ := hB
  rw [ht] at hW1
  exact kk H1 locs1 ls hW1 hS1 hl
theorem j_callIv (C : Cx p s m args meth c cc nL own ret Ts g) {y : MethodName} {bytes : ByteArray} {maxL mc ms n index : Nat} {ws : List Cond} {rm : Room} {b : Nat} {As rest : List Value} (hM : Met l y ws rm (PreW g ad χ T σ (.ref b :: As)) (PoV g ad χ' T' σ' ) mc ms (geB g)) (cw : CallB R s args own index y bytes maxL none ws rm mc ms n ∧ y.name = "<init>" ∧ (Cond.instanceMethod y).before args s = true) (hn : As.length = n) (hst : st = As.reverse ++ .ref b :: rest) (hW8 : (rest.map fun v => v.category).sum ≤ 8) (hdg : decode cc pc = .ok (.invokespecial index, 3)) (hf : cells + mc ≤ R.cells ∧ slots + ms ≤ R.slots)
    (kk : JJ p l e R s m args below meth c nL g ad Q χ' T' σ' (cells + mc) (slots + ms) L (pc + 3) (rest)) : JJ p l e R s m args below meth c nL g ad Q χ T σ cells slots L pc st := by
  intro H locs ls hW hS hl
  refine va_callv (va_runI (As := As) (rest := rest) C.fix hM cw ⟨fb_pre, fun U hU hw => ⟨rfl, j_pre C hW hS hU hw⟩⟩ rfl hn hl.1 hst (lv_room hW8) hdg hf) hS (fun q _ h => h) (fun q h => h) (fun u t H1 locs1 ht hvm hp hB hz hk hS1 => ?_)
  skip
  obtain ⟨-, -, hW1⟩ := hB
  rw [ht] at hW1
  exact kk H1 locs1 ls hW1 hS1 hl
theorem j_callINv (C : Cx p s m args meth c cc nL own ret Ts g) {y : MethodName} {bytes : ByteArray} {maxL mc ms n index : Nat} {ws : List Cond} {rm : Room} {b : Nat} {As rest : List Value} {host : String} (hM : Met l y ws rm (PreW g ad χ T σ (.ref b :: As)) (PoV g ad χ' T' σ' ) mc ms (geB g)) (cw : va_CN R s args own index y host bytes maxL none ws rm mc ms n ∧ y.name = "<init>" ∧ (Cond.instanceMethod y).before args s = true) (hn : As.length = n) (hst : st = As.reverse ++ .ref b :: rest) (hW8 : (rest.map fun v => v.category).sum ≤ 8) (hdg : decode cc pc = .ok (.invokespecial index, 3)) (hf : cells + mc ≤ R.cells ∧ slots + ms ≤ R.slots)
    (kk : JJ p l e R s m args below meth c nL g ad Q χ' T' σ' (cells + mc) (slots + ms) L (pc + 3) (rest)) : JJ p l e R s m args below meth c nL g ad Q χ T σ cells slots L pc st := by
  intro H locs ls hW hS hl
  refine va_callv (va_runIN (As := As) (rest := rest) C.fix hM cw ⟨fb_pre, fun U hU hw => ⟨rfl, j_pre C hW hS hU hw⟩⟩ rfl hn hl.1 hst (lv_room hW8) hdg hf) hS (fun q _ h => h) (fun q h => h) (fun u t H1 locs1 ht hvm hp hB hz hk hS1 => ?_)
  skip
  obtain ⟨-, -, hW1⟩ := hB
  rw [ht] at hW1
  exact kk H1 locs1 ls hW1 hS1 hl
theorem j_callFi (C : Cx p s m args meth c cc nL own ret Ts g) {y : MethodName} {bytes : ByteArray} {maxL mc ms n index : Nat} {rt : FieldType} {ws : List Cond} {rm : Room} {b : Nat} {As rest : List Value} {r0 : Int32} {Cn : String} {x : MethodName} {cC : ClassId} {count : Nat} (hat : ClassAt s Cn cC) (hM : Met l y ws rm (PreW g ad χ T σ (.ref b :: As)) (PoI g ad χ' T' σ' r0) mc ms (geB g)) (cw : va_CI R s args own Cn index x y bytes maxL (some rt) ws rm mc ms n) (hrv : ∀ H, CW g ad χ T σ H → ∃ cellB : Cell, H[b]? = some cellB ∧ cellB.vm.isStatics = false ∧ s.vm.findClass Cn = some cellB.cls) (hn : As.length = n) (hst : st = As.reverse ++ .ref b :: rest) (hW8 : (rest.map fun v => v.category).sum ≤ 8) (hdg : decode cc pc = .ok (.invokeinterface index count, 5)) (hf : cells + mc ≤ R.cells ∧ slots + ms ≤ R.slots)
    (kk : JJ p l e R s m args below meth c nL g ad Q χ' T' σ' (cells + mc) (slots + ms) L (pc + 5) (.int r0 :: rest)) : JJ p l e R s m args below meth c nL g ad Q χ T σ cells slots L pc st := by
  intro H locs ls hW hS hl
  refine va_callFi (va_runF (As := As) (rest := rest) hat C.fix hM cw ⟨fb_pre, hrv H hW, fun U hU hw => ⟨rfl, j_pre C hW hS hU hw⟩⟩ rfl hn hl.1 hst (lv_room hW8) hdg hf) hS (fun q _ h => h) (fun q h => h) (fun r u t H1 locs1 ht hvm hp hB hz hk hS1 => ?_)
  subst hp
  obtain ⟨-, -, hW1⟩ := hB
  rw [ht] at hW1
  exact kk H1 locs1 ls hW1 hS1 hl
theorem j_callFv (C : Cx p s m args meth c cc nL own ret Ts g) {y : MethodName} {bytes : ByteArray} {maxL mc ms n index : Nat} {ws : List Cond} {rm : Room} {b : Nat} {As rest : List Value} {Cn : String} {x : MethodName} {cC : ClassId} {count : Nat} (hat : ClassAt s Cn cC) (hM : Met l y ws rm (PreW g ad χ T σ (.ref b :: As)) (PoV g ad χ' T' σ' ) mc ms (geB g)) (cw : va_CI R s args own Cn index x y bytes maxL none ws rm mc ms n) (hrv : ∀ H, CW g ad χ T σ H → ∃ cellB : Cell, H[b]? = some cellB ∧ cellB.vm.isStatics = false ∧ s.vm.findClass Cn = some cellB.cls) (hn : As.length = n) (hst : st = As.reverse ++ .ref b :: rest) (hW8 : (rest.map fun v => v.category).sum ≤ 8) (hdg : decode cc pc = .ok (.invokeinterface index count, 5)) (hf : cells + mc ≤ R.cells ∧ slots + ms ≤ R.slots)
    (kk : JJ p l e R s m args below meth c nL g ad Q χ' T' σ' (cells + mc) (slots + ms) L (pc + 5) (rest)) : JJ p l e R s m args below meth c nL g ad Q χ T σ cells slots L pc st := by
  intro H locs ls hW hS hl
  refine va_callFv (va_runF (As := As) (rest := rest) hat C.fix hM cw ⟨fb_pre, hrv H hW, fun U hU hw => ⟨rfl, j_pre C hW hS hU hw⟩⟩ rfl hn hl.1 hst (lv_room hW8) hdg hf) hS (fun q _ h => h) (fun q h => h) (fun u t H1 locs1 ht hvm hp hB hz hk hS1 => ?_)
  skip
  obtain ⟨-, -, hW1⟩ := hB
  rw [ht] at hW1
  exact kk H1 locs1 ls hW1 hS1 hl
theorem j_callFq (C : Cx p s m args meth c cc nL own ret Ts g) {y : MethodName} {bytes : ByteArray} {maxL mc ms n index : Nat} {rt : FieldType} {ws : List Cond} {rm : Room} {b : Nat} {As rest : List Value} {r0 : Option Nat} {Cn : String} {x : MethodName} {cC : ClassId} {count : Nat} (hat : ClassAt s Cn cC) (hM : Met l y ws rm (PreW g ad χ T σ (.ref b :: As)) (PoR g ad χ' T' σ' r0) mc ms (geB g)) (cw : va_CI R s args own Cn index x y bytes maxL (some rt) ws rm mc ms n) (hrv : ∀ H, CW g ad χ T σ H → ∃ cellB : Cell, H[b]? = some cellB ∧ cellB.vm.isStatics = false ∧ s.vm.findClass Cn = some cellB.cls) (hn : As.length = n) (hst : st = As.reverse ++ .ref b :: rest) (hW8 : (rest.map fun v => v.category).sum ≤ 8) (hdg : decode cc pc = .ok (.invokeinterface index count, 5)) (hf : cells + mc ≤ R.cells ∧ slots + ms ≤ R.slots)
    (kk : JJ p l e R s m args below meth c nL g ad Q χ' T' σ' (cells + mc) (slots + ms) L (pc + 5) (va_rf r0 :: rest)) : JJ p l e R s m args below meth c nL g ad Q χ T σ cells slots L pc st := by
  intro H locs ls hW hS hl
  refine va_callFq (va_runF (As := As) (rest := rest) hat C.fix hM cw ⟨fb_pre, hrv H hW, fun U hU hw => ⟨rfl, j_pre C hW hS hU hw⟩⟩ rfl hn hl.1 hst (lv_room hW8) hdg hf) hS (fun q _ h => h) (fun q h => h) (fun r u t H1 locs1 ht hvm hp hB hz hk hS1 => ?_)
  subst hp
  obtain ⟨-, -, hW1⟩ := hB
  rw [ht] at hW1
  exact kk H1 locs1 ls hW1 hS1 hl
theorem j_iret (C : Cx p s m args meth c cc nL own ret Ts g) {mc ms : Nat} {v : Int32} {ty : FieldType} (hr : ret = some ty) (hn : narrow ty (.int v) = .int v) (hc : cells ≤ mc) (hs : slots ≤ ms) (hdg : decode cc pc = .ok (.ireturn, 1)) :
    JJ p l e R s m args below meth c nL g ad (MQ below (PoI g ad χ T σ v) args s mc ms (geB g)) χ T σ cells slots L pc [.int v] := by
  intro H locs ls hW hS hl
  refine W.widen hc hs ?_
  exact W.zret C.x C.b (C.r.trans hr) hn (fun t ht hw => ⟨⟨v, (), rfl, rfl, j_pre C hW hS ht hw⟩, hS.F ht⟩) hS.2.2 hdg C.lk
theorem j_lret (C : Cx p s m args meth c cc nL own ret Ts g) {mc ms : Nat} {v : Int64} (hr : ret = some .long) (hc : cells ≤ mc) (hs : slots ≤ ms) (hdg : decode cc pc = .ok (.lreturn, 1)) :
    JJ p l e R s m args below meth c nL g ad (MQ below (PoL g ad χ T σ v) args s mc ms (geB g)) χ T σ cells slots L pc [.long v] := by
  intro H locs ls hW hS hl
  refine W.widen hc hs ?_
  exact W.lret C.x C.b (C.r.trans hr) (fun t ht hw => ⟨⟨v, (), rfl, rfl, j_pre C hW hS ht hw⟩, hS.F ht⟩) hS.2.2 hdg C.lk
theorem j_vret (C : Cx p s m args meth c cc nL own ret Ts g) {mc ms : Nat} (hr : ret = none) (hc : cells ≤ mc) (hs : slots ≤ ms) (hdg : decode cc pc = .ok (.return_, 1)) :
    JJ p l e R s m args below meth c nL g ad (MQ below (PoV g ad χ T σ) args s mc ms (geB g)) χ T σ cells slots L pc [] := by
  intro H locs ls hW hS hl
  refine W.widen hc hs ?_
  exact W.vret C.x C.b (C.r.trans hr) (fun t ht hw => ⟨⟨(), rfl, trivial, j_pre C hW hS ht hw⟩, hS.F ht⟩) hS.2.2 hdg C.lk
theorem j_aret (C : Cx p s m args meth c cc nL own ret Ts g) {mc ms : Nat} {v : Option Nat} {rt : FieldType} (hr : ret = some rt) (hrt : (∃ n, rt = .object n) ∨ ∃ t, rt = .array t) (hc : cells ≤ mc) (hs : slots ≤ ms) (hdg : decode cc pc = .ok (.areturn, 1)) :
    JJ p l e R s m args below meth c nL g ad (MQ below (PoR g ad χ T σ v) args s mc ms (geB g)) χ T σ cells slots L pc [va_rf v] := by
  intro H locs ls hW hS hl
  refine W.widen hc hs ?_
  exact W.aret C.x C.b (C.r.trans hr) hrt (va_rf_or v) (fun t ht hw => ⟨⟨v, (), rfl, rfl, j_pre C hW hS ht hw⟩, hS.F ht⟩) hS.2.2 hdg C.lk
/-- a method's contract out of the judgement at its entry -/
theorem j_met {l : Launch} {g : Gc} {ad : Nat → Nat → Nat} {χ : Mem} {T : Nat → Mem} {σ : Mem} {y : MethodName} {ws ws' : List Cond} {rm : Room} {av : List Value} {Qc : Array Value → State → Outcome → State → Prop} {mc ms : Nat} {free : Addr → Prop} {cc : ByteArray} {maxL : Nat} {ret : Option FieldType}
    (hy : plainName y.cls = true) (hw : ws = Cond.code y cc maxL ret :: ws') (hlen : (lg_sl av).length ≤ maxL)
    (body : ∀ (p : Program) (e : Env) (s : State) (m : MethodId) (below : List Frame) (meth : Method) (c : Code), Cx p s m av.toArray meth c cc maxL y.cls ret ws g → meth.name = y.name →
      JJ p l e (headSpec ws rm).room s m av.toArray below meth c maxL g ad (MQ below Qc av.toArray s mc ms free) χ T σ 0 0 (lv_args 0 av) 0 []) : Met l y ws rm (PreW g ad χ T σ av) Qc mc ms free := by
  refine Met.ofW (cc := cc) (maxL := maxL) (ret := ret) hy hw ?_
  intro p e s m args below meth c s₁ B hml hv
  obtain ⟨rfl, hk, hz, hW⟩ := hv
  have hl := lv_entry av (n := maxL) hlen
  rw [lg_entry_eq]
  obtain ⟨η, hη⟩ := hW
  exact body p e s m below meth c ⟨B.exec, B.bytes, hml, findClass_of_methodNamed B.named, atoms_spec (ws := ws) B.pre, hk, hz, B.returns, B.notSynchronized, hη.2.2.2.2.2⟩ (name_of_methodNamed B.named B.method).1 s.heap [] _ ⟨η, hη⟩ va_S.rf hl
end RBC
