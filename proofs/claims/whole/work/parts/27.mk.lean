/-! MAKING the objects of a run: small worlds that grow, one constructor inside the other -/
def AO2 (U : State) : Prop := (Cond.arrayOver (.array .long)).before #[] U = true
theorem AO2.moved {u U : State} (hv : u.vm.Alike U.vm) (h : AO2 u) : AO2 U := over_moved hv h
def PreK (g : Gc) (ws : va_W) (sz : Nat) (av : List Value) : Array Value → State → Prop := fun a U => PreL g ws sz RX4 (fun _ => False) av a U ∧ AO2 U
section MKA
variable {p : Program} {l : Launch} {e : Env} {R : Room} {s : State} {m : MethodId} {args : Array Value} {below : List Frame} {meth : Method} {c : Code} {Q : State → Prop}
variable {cc : ByteArray} {nL : Nat} {own : String} {ret : Option FieldType} {Ts : List Cond} {g : Gc} {A : Nat → Prop} {ws ws' : va_W} {cells slots : Nat} {L L' : List (Nat × Value)} {pc : Nat} {st : List Value}
theorem fb_preK {sz : Nat} {av : List Value} : FrameBlind (PreK g ws sz av) := fun a U f mk h => ⟨fb_preL a U f mk h.1, AO2.moved (u := U) (U := U.calling f mk _) (Vm.Alike.refl U.vm) h.2⟩
theorem k_metK {l : Launch} {g : Gc} {ws : va_W} {sz : Nat} {y : MethodName} {rm : Room} {av : List Value} {Qc : Array Value → State → Outcome → State → Prop} {mc ms : Nat} {cc : ByteArray} {maxL : Nat} {ret : Option FieldType}
    (hy : plainName y.cls = true) (hlen : (lg_sl av).length ≤ maxL)
    (body : ∀ (p : Program) (e : Env) (s : State) (m : MethodId) (below : List Frame) (meth : Method) (c : Code), Cx p s m av.toArray meth c cc maxL y.cls ret COM g → AO2 s → meth.name = y.name → (∀ q, va_A ws sz q → geB g q) → (∀ q, s.heap.size ≤ q → va_A ws sz q) →
      JG p l e rm s m av.toArray below meth c maxL (va_A ws sz) (MQ below Qc av.toArray s mc ms (va_A ws sz)) (VW g (va_A ws sz) ws) 0 0 (lv_args 0 av) 0 []) : Met l y (WS y cc maxL ret) rm (PreK g ws sz av) Qc mc ms (va_A ws sz) := by
  refine Met.ofW (cc := cc) (maxL := maxL) (ret := ret) hy rfl ?_
  intro p e s m args below meth c s₁ B hml hv
  obtain ⟨⟨rfl, hk, hz, hsz, hbs, hP, hD, hel⟩, hao⟩ := hv
  have hl := lv_entry av (n := maxL) hlen
  rw [lg_entry_eq]
  have hts := atoms_spec (ws := WS y cc maxL ret) B.pre
  exact body p e s m below meth c ⟨B.exec, B.bytes, hml, findClass_of_methodNamed B.named, fun w hw => hts w (List.mem_cons_of_mem _ hw), hk, hz, B.returns, B.notSynchronized, by rw [hsz]; exact hbs⟩ hao (name_of_methodNamed B.named B.method).1 (vaA_in hbs hD) (fun q h => Or.inr (by rw [← hsz]; exact h)) s.heap [] _ ⟨hP, hD.self⟩ va_S.rf hl
theorem k_newO (C : Cx p s m args meth c cc nL own ret Ts g) (hAf : ∀ q, s.heap.size ≤ q → A q) {Cl : String} {TT : u_T} {N ci index : Nat} {fs : List Value} (hin : ∀ w ∈ u_ws Cl TT N, w ∈ Ts) {ty0 : Nat → FieldType} (hty : ∀ k, k < N → parseFieldDescriptor (TT k).2.2.1 = some (ty0 k)) (hlink : Cond.classLink own index Cl ∈ Ts) (hinst : Cond.instantiable Cl N ∈ Ts) (hini : Cond.initialized Cl ∈ Ts) (hc : vwCl[ci]? = some (Cl, TT, N)) (hfs : ∀ j, j < N → defaultValue (ty0 j) = vp_V fs j) (hcells : cells + 1 ≤ R.cells) (hslots : slots + N ≤ R.slots) (hdg : decode cc pc = .ok (.new index, 3))
    (kk : ∀ q : Nat, JG p l e R s m args below meth c nL A Q (VW g A (ws ++ [(q, .inr (ci, fs))])) (cells + 1) (slots + N) L (pc + 3) (.ref q :: st)) : JG p l e R s m args below meth c nL A Q (VW g A ws) cells slots L pc st :=
  fun H locs ls hW hS hl => va_new C.x C.b C.ts hin ty0 hty C.ow (C.ts _ hlink) (C.ts _ hinst) (C.ts _ hini) C.k.1 hW.1 hW.2 hS hAf hc hfs hcells hslots hdg (fun q H1 hP hD hS1 => kk q H1 locs ls ⟨hP, hD⟩ hS1 hl)
theorem k_newI (C : Cx p s m args meth c cc nL own ret Ts g) (hAf : ∀ q, s.heap.size ≤ q → A q) (harr : Cond.arrayClass (newarray.typeOf .int) ∈ Ts) {n : Int32} {N' : Nat} (hn : ¬ n < 0) (hN : n.toNatClampNeg = N') (hbytes : N' * 4 ≤ 536870912) (hcells : cells + 1 ≤ R.cells) (hslots : slots + N' ≤ R.slots) (hdg : decode cc pc = .ok (.newarray .int, 2))
    (kk : ∀ q : Nat, JG p l e R s m args below meth c nL A Q (VW g A (ws ++ [(q, aI g N' (fun _ => 0))])) (cells + 1) (slots + N') L (pc + 2) (.ref q :: st)) : JG p l e R s m args below meth c nL A Q (VW g A ws) cells slots L pc (.int n :: st) := by
  intro H locs ls hW hS hl
  refine va_newa C.x C.b (C.ts _ harr) rfl C.k.1 hW.1 hW.2 hS hAf (a0 := (N', .inl fun _ => 0)) (fun cA => rfl) hn hN hbytes hcells hslots hdg (fun q cA H1 hK1 hP hD hS1 => ?_)
  have e : cA = g.2.1 0 := by
    have h1 := (hK1.2 6 _ rfl).2
    have h2 := (C.k.1.2 0 _ rfl).2
    exact Option.some.inj (h1.symm.trans h2)
  subst e
  exact kk q H1 locs ls ⟨hP, hD⟩ hS1 hl
theorem k_newZ (C : Cx p s m args meth c cc nL own ret Ts g) (hAf : ∀ q, s.heap.size ≤ q → A q) (harr : Cond.arrayClass (newarray.typeOf .boolean) ∈ Ts) {n : Int32} {N' : Nat} (hn : ¬ n < 0) (hN : n.toNatClampNeg = N') (hbytes : N' * 1 ≤ 536870912) (hcells : cells + 1 ≤ R.cells) (hslots : slots + N' ≤ R.slots) (hdg : decode cc pc = .ok (.newarray .boolean, 2))
    (kk : ∀ q : Nat, JG p l e R s m args below meth c nL A Q (VW g A (ws ++ [(q, aZ g N' (fun _ => 0))])) (cells + 1) (slots + N') L (pc + 2) (.ref q :: st)) : JG p l e R s m args below meth c nL A Q (VW g A ws) cells slots L pc (.int n :: st) := by
  intro H locs ls hW hS hl
  refine va_newa C.x C.b (C.ts _ harr) rfl C.k.1 hW.1 hW.2 hS hAf (a0 := (N', .inl fun _ => 0)) (fun cA => rfl) hn hN hbytes hcells hslots hdg (fun q cA H1 hK1 hP hD hS1 => ?_)
  have e : cA = g.2.1 2 := by
    have h1 := (hK1.2 6 _ rfl).2
    have h2 := (C.k.1.2 2 _ rfl).2
    exact Option.some.inj (h1.symm.trans h2)
  subst e
  exact kk q H1 locs ls ⟨hP, hD⟩ hS1 hl
theorem k_newT (C : Cx p s m args meth c cc nL own ret Ts g) (hAf : ∀ q, s.heap.size ≤ q → A q) {index : Nat} (hclink : Cond.classLink own index "RodBench$Thing" ∈ Ts) {n : Int32} {N' : Nat} (hn : ¬ n < 0) (hN : n.toNatClampNeg = N') (hbytes : N' * 4 ≤ 536870912) (hcells : cells + 1 ≤ R.cells) (hslots : slots + N' ≤ R.slots) (hdg : decode cc pc = .ok (.anewarray index, 3))
    (kk : ∀ q : Nat, JG p l e R s m args below meth c nL A Q (VW g A (ws ++ [(q, aR g 3 N' (fun _ => none))])) (cells + 1) (slots + N') L (pc + 3) (.ref q :: st)) : JG p l e R s m args below meth c nL A Q (VW g A ws) cells slots L pc (.int n :: st) := by
  intro H locs ls hW hS hl
  refine va_newq C.x C.b C.ow (C.ts _ hclink) C.k.2.2.2.2.2.2.1 C.k.1 hW.1 hW.2 hS hAf hn hN hbytes hcells hslots hdg (fun q cA H1 hK1 hP hD hS1 => ?_)
  have e : cA = g.2.1 3 := by
    obtain ⟨-, -, -, -, -, h4⟩ := (hK1.2 6 _ rfl).2
    obtain ⟨-, -, -, -, -, k4⟩ := (C.k.1.2 3 _ rfl).2
    exact Option.some.inj (h4.symm.trans k4)
  subst e
  exact kk q H1 locs ls ⟨hP, hD⟩ hS1 hl
theorem mo_outer (c : ClassId) (N h0 : Nat) : ∀ i : Nat, Jvm.Free.Multi.outerC c N h0 i = arrV c N (fun j => va_rf (if j < i then some (h0 + 1 + j) else none))
  | 0 => by
    show ({ cls := c, slots := Array.replicate N .null, vm := .none } : Cell) = _
    rw [arrV_new]
    refine congrArg (arrV c N) (funext fun j => ?_)
    simp [va_rf]
  | i + 1 => by
    show (Jvm.Free.Multi.outerC c N h0 i).setSlot i (.ref (h0 + 1 + i)) = _
    rw [mo_outer c N h0 i, arrV_store]
    refine congrArg (arrV c N) (funext fun j => ?_)
    by_cases e : j = i
    · subst e
      simp [updV, va_rf]
    · by_cases h : j < i
      · simp [updV, e, h, Nat.lt_succ_of_lt h]
      · simp [updV, e, h, show ¬ j < i + 1 by omega]
/-- cells that lie one behind the other from the heap's end on -/
theorem vw_app {H H1 : Heap} {new : va_W} (hW : VW g A ws H) (hz : H.size ≤ H1.size) (hold : ∀ x : Nat, x < H.size → H1[x]? = H[x]?) (hA : ∀ q, H.size ≤ q → A q) (hn : va_P g.1 vwCl new H1) (hd : ∀ (k : Nat) (x : Nat × va_E), new[k]? = some x → x.1 = H.size + k) : VW g A (ws ++ new) H1 := by
  have hlt : ∀ (k : Nat) (x : Nat × va_E), ws[k]? = some x → x.1 < H.size := fun k x hx => (hW.1 k x hx).lt
  refine ⟨(hW.1.kept (fun k x hx => hold x.1 (hlt k x hx))).app hn, fun i j x y hi hj hxy => ?_, fun k x hx => ?_⟩
  · by_cases h1 : i < ws.length <;> by_cases h2 : j < ws.length
    · rw [List.getElem?_append_left h1] at hi
      rw [List.getElem?_append_left h2] at hj
      exact hW.2.1 i j x y hi hj hxy
    · rw [List.getElem?_append_left h1] at hi
      rw [List.getElem?_append_right (by omega)] at hj
      have := hlt _ _ hi
      have := hd _ _ hj
      omega
    · rw [List.getElem?_append_right (by omega)] at hi
      rw [List.getElem?_append_left h2] at hj
      have := hlt _ _ hj
      have := hd _ _ hi
      omega
    · rw [List.getElem?_append_right (by omega)] at hi hj
      have := hd _ _ hi
      have := hd _ _ hj
      omega
  · by_cases h1 : k < ws.length
    · rw [List.getElem?_append_left h1] at hx
      exact hW.2.2 k x hx
    · rw [List.getElem?_append_right (by omega)] at hx
      exact hA _ (by have := hd _ _ hx; omega)
def rowW (g : Gc) (q : Nat) : va_W := (q, aR g 5 15 (fun r => if r < 15 then some (q + 1 + r) else none)) :: (List.range 15).map (fun r => (q + 1 + r, aL g 16 (fun _ => 0)))
theorem k_mna (C : Cx p s m args meth c cc nL own ret Ts g) (hAf : ∀ q, s.heap.size ≤ q → A q) (hao : AO2 s) {index : Nat} (hclink : Cond.classLink own index "[[J" ∈ Ts) (harr : Cond.arrayClass .long ∈ Ts) (hcells : cells + 16 ≤ R.cells) (hslots : slots + 255 ≤ R.slots) (hdg : decode cc pc = .ok (.multianewarray index 2, 4))
    (kk : ∀ q : Nat, JG p l e R s m args below meth c nL A Q (VW g A (ws ++ rowW g q)) (cells + 16) (slots + 255) L (pc + 4) (.ref q :: st)) : JG p l e R s m args below meth c nL A Q (VW g A ws) cells slots L pc (.int 16 :: .int 15 :: st) := by
  intro H locs ls hW hS hl T hT Xs
  obtain ⟨vm₁, cA, comp, -, fA, fC, hO, -, X', step⟩ := Xs.multianewarray2F C.x C.ow (index := index) (ty := .long) (C.ts _ hclink) (over_moved (Vm.Alike.refl s.vm) hao) (C.ts _ harr) (g := F0 m pc ls (.int 16 :: .int 15 :: st)) rfl (by rw [C.b]; exact hdg) rfl (by decide) (by decide) (by decide) (by decide) (by decide) rfl rfl hcells hslots
  have e1 : cA = g.2.1 5 := by
    have h2 : s.vm.findClass _ = some (g.2.1 5) := (C.k.1.2 5 _ rfl).2
    exact Option.some.inj (fA.symm.trans h2)
  have e2 : comp = g.2.1 1 := by
    have h2 : s.vm.findClass _ = some (g.2.1 1) := (C.k.1.2 1 _ rfl).2
    exact Option.some.inj (fC.symm.trans h2)
  subst e1
  subst e2
  generalize hF : Jvm.Free.Multi.fill (T.setVm vm₁) (g.2.1 5) (g.2.1 1) (15 : Int32).toNatClampNeg (16 : Int32).toNatClampNeg (defaultValue .long) (15 : Int32).toNatClampNeg = F at X' step
  have hTh : (T.setVm vm₁).heap = H := hT
  obtain ⟨f1, f2, -, -⟩ := Jvm.Free.Multi.fill_facts (T.setVm vm₁) (g.2.1 5) (g.2.1 1) (15 : Int32).toNatClampNeg (16 : Int32).toNatClampNeg (defaultValue .long) (15 : Int32).toNatClampNeg
  rw [hF, hTh] at f1 f2
  have hold : ∀ x : Nat, x < H.size → F.heap[x]? = H[x]? := fun x hx => by
    have := Jvm.Free.Multi.fill_old (T.setVm vm₁) (g.2.1 5) (g.2.1 1) (15 : Int32).toNatClampNeg (16 : Int32).toNatClampNeg (defaultValue .long) (a := x) (by rw [hTh]; exact hx) (15 : Int32).toNatClampNeg
    rw [hF, hTh] at this
    exact this
  have hrow : ∀ j : Nat, j < 15 → F.heap[H.size + 1 + j]? = some (vp_cell (g.2.1 1) (16, .inr (.inl fun _ => 0))) := fun j hj => by
    have := Jvm.Free.Multi.fill_inner (T.setVm vm₁) (g.2.1 5) (g.2.1 1) (15 : Int32).toNatClampNeg (16 : Int32).toNatClampNeg (defaultValue .long) (15 : Int32).toNatClampNeg j hj
    rw [hF, hTh] at this
    rw [this]
    show some (Jvm.Free.Multi.innerC (g.2.1 1) 16 (.long 0)) = some (arrV (g.2.1 1) 16 (fun _ => .long 0))
    rfl
  have hout : F.heap[H.size]? = some (vp_cell (g.2.1 5) (15, .inr (.inr (.inr (.inr (fun i => if i < 15 then some (H.size + 1 + i) else none)))))) := by
    rw [f2, vp_cell_q]
    exact congrArg some (mo_outer (g.2.1 5) 15 H.size 15)
  have hV : VW g A (ws ++ rowW g H.size) F.heap := by
    refine vw_app hW (by rw [f1]; omega) hold (fun q hq => hAf q (Nat.le_trans hS.1 hq)) (fun k x hx => ?_) (fun k x hx => ?_)
    · cases k with
      | zero => cases hx; exact hout
      | succ k =>
        have hk : k < 15 := by
          have := (List.getElem?_eq_some_iff.mp hx).1
          simp [rowW] at this; omega
        have hx' : ((List.range 15).map (fun r => ((H.size + 1 + r, aL g 16 (fun _ => 0)) : Nat × va_E)))[k]? = some x := hx
        rw [List.getElem?_map, List.getElem?_range hk] at hx'
        cases hx'
        exact hrow k hk
    · cases k with
      | zero => cases hx; rfl
      | succ k =>
        have hk : k < 15 := by
          have := (List.getElem?_eq_some_iff.mp hx).1
          simp [rowW] at this; omega
        have hx' : ((List.range 15).map (fun r => ((H.size + 1 + r, aL g 16 (fun _ => 0)) : Nat × va_E)))[k]? = some x := hx
        rw [List.getElem?_map, List.getElem?_range hk] at hx'
        cases hx'
        show H.size + 1 + k = H.size + (k + 1)
        omega
  obtain ⟨t, a1, b1⟩ := kk H.size F.heap locs ls hV ⟨by rw [f1]; have := hS.1; omega, fun x h1 h2 => (hold x (Nat.lt_of_lt_of_le h1 hS.1)).trans (hS.2.1 x h1 h2), hS.2.2⟩ hl F rfl X'
  refine ⟨t, step t ?_, b1⟩
  have e : T.heap.size = H.size := by rw [hT]
  rw [e]
  exact a1
/-- behind a constructor: its object as it left it, what it made behind all else -/
theorem vw_join {H H1 : Heap} {q0 b : Nat} {e0 e1 : va_E} {rest : va_W} (hW : VW g A ws H) (he : ws[q0]? = some (b, e0)) (hA : ∀ q, H.size ≤ q → A q) (hk : ∀ q : Nat, q < H.size → q ≠ b → H1[q]? = H[q]?) (hV : VW g (va_A [(b, e0)] H.size) ((b, e1) :: rest) H1) : VW g A (ws.set q0 (b, e1) ++ rest) H1 := by
  have hlt : ∀ (k : Nat) (x : Nat × va_E), ws[k]? = some x → x.1 < H.size := fun k x hx => (hW.1 k x hx).lt
  have hq0 : q0 < ws.length := (List.getElem?_eq_some_iff.mp he).1
  have hnew : ∀ (k : Nat) (x : Nat × va_E), rest[k]? = some x → H.size ≤ x.1 := fun k x hx => by
    have h1 := hV.2.2 (k + 1) x hx
    have h2 : x.1 ≠ b := fun z => by
      have := hV.2.1 (k + 1) 0 x (b, e1) hx rfl z
      omega
    rcases h1 with ⟨k9, e9, h9⟩ | h1
    · match k9, h9 with
      | 0, h9 => cases h9; exact absurd rfl h2
      | k9 + 1, h9 => simp at h9
    · exact h1
  have hset : ∀ (k : Nat) (x : Nat × va_E), (ws.set q0 (b, e1))[k]? = some x → (k = q0 ∧ x = (b, e1)) ∨ (k ≠ q0 ∧ ws[k]? = some x) := fun k x hx => by
    by_cases c : k = q0
    · subst c; rw [List.getElem?_set_self hq0] at hx; exact Or.inl ⟨rfl, (Option.some.inj hx).symm⟩
    · rw [List.getElem?_set_ne (fun z => c z.symm)] at hx; exact Or.inr ⟨c, hx⟩
  have hfst : ∀ (k : Nat) (x : Nat × va_E), (ws.set q0 (b, e1))[k]? = some x → ∃ y, ws[k]? = some (x.1, y) := fun k x hx => by
    rcases hset k x hx with ⟨rfl, rfl⟩ | ⟨c, h⟩
    · exact ⟨e0, he⟩
    · exact ⟨x.2, h⟩
  have hbA : A b := hW.2.2 q0 _ he
  refine ⟨va_P.app (fun k x hx => ?_) (fun k x hx => hV.1 (k + 1) x hx), fun i j x y hi hj hxy => ?_, fun k x hx => ?_⟩
  · rcases hset k x hx with ⟨rfl, rfl⟩ | ⟨c, h⟩
    · exact hV.1 0 _ rfl
    · refine (hW.1 k x h).kept (hk x.1 (hlt k x h) (fun z => c ?_))
      exact hW.2.1 k q0 x (b, e0) h he z
  · by_cases h1 : i < (ws.set q0 (b, e1)).length <;> by_cases h2 : j < (ws.set q0 (b, e1)).length
    · rw [List.getElem?_append_left h1] at hi
      rw [List.getElem?_append_left h2] at hj
      obtain ⟨a1, a2⟩ := hfst i x hi
      obtain ⟨b1, b2⟩ := hfst j y hj
      exact hW.2.1 i j _ _ a2 b2 hxy
    · rw [List.getElem?_append_left h1] at hi
      rw [List.getElem?_append_right (by omega)] at hj
      obtain ⟨a1, a2⟩ := hfst i x hi
      have := hlt _ _ a2
      have := hnew _ _ hj
      omega
    · rw [List.getElem?_append_right (by omega)] at hi
      rw [List.getElem?_append_left h2] at hj
      obtain ⟨a1, a2⟩ := hfst j y hj
      have := hlt _ _ a2
      have := hnew _ _ hi
      omega
    · rw [List.getElem?_append_right (by omega)] at hi hj
      have := hV.2.1 _ _ x y (show ((b, e1) :: rest)[i - (ws.set q0 (b, e1)).length + 1]? = some x from hi) (show ((b, e1) :: rest)[j - (ws.set q0 (b, e1)).length + 1]? = some y from hj) hxy
      omega
  · by_cases h1 : k < (ws.set q0 (b, e1)).length
    · rw [List.getElem?_append_left h1] at hx
      obtain ⟨a1, a2⟩ := hfst k x hx
      exact hW.2.2 k (x.1, a1) a2
    · rw [List.getElem?_append_right (by omega)] at hx
      exact hA _ (hnew _ _ hx)
theorem one_vp {H : Heap} {q0 b : Nat} {e0 : va_E} (hW : VW g A ws H) (he : ws[q0]? = some (b, e0)) : va_P g.1 vwCl [(b, e0)] H := fun k x hx => by
  match k, hx with
  | 0, hx => cases hx; exact hW.1 q0 _ he
  | k + 1, hx => simp at hx
theorem one_vd {q0 b : Nat} {e0 : va_E} {A' : Nat → Prop} (hD : va_D A ws) (he : ws[q0]? = some (b, e0)) (hA : ∀ q, A q → A' q) : va_D A' [(b, e0)] := by
  refine ⟨fun i j x y hi hj _ => ?_, fun k x hx => ?_⟩
  · match i, j, hi, hj with
    | 0, 0, _, _ => rfl
    | i + 1, _, hi, _ => simp at hi
    | 0, j + 1, _, hj => simp at hj
  · match k, hx with
    | 0, hx => cases hx; exact hA _ (hD.2 q0 _ he)
    | k + 1, hx => simp at hx
theorem k_preK (C : Cx p s m args meth c cc nL own ret Ts g) (hao : AO2 s) (hAB : ∀ q, A q → geB g q) {H : Heap} {locs : List Loc} {q0 b : Nat} {e0 : va_E} (hW : VW g A ws H) (he : ws[q0]? = some (b, e0)) (hS : va_S A s.heap H locs) {av : List Value} {U : State} (hU : U.heap = H) (hw : s.WarmedH U.vm) : PreK g [(b, e0)] H.size av av.toArray U :=
  ⟨⟨rfl, CK.warm hw C.k, by rw [hU]; exact CZ.moved hw.alike C.z (fun a h1 h2 => hS.2.1 a h1 (fun q => h2 (hAB a q))), by rw [hU], Nat.le_trans C.bs hS.1, by rw [hU]; exact one_vp hW he, one_vd hW.2 he hAB, fun y hy => absurd hy id⟩, AO2.moved hw.alike hao⟩
theorem one_A {H : Heap} {q0 b : Nat} {e0 : va_E} (hAf : ∀ q, s.heap.size ≤ q → A q) (hW : VW g A ws H) (he : ws[q0]? = some (b, e0)) {locs : List Loc} (hS : va_S A s.heap H locs) : ∀ q, va_A [(b, e0)] H.size q → A q := by
  intro q h
  rcases h with ⟨k, e2, hk⟩ | h
  · match k, hk with
    | 0, hk => cases hk; exact hW.2.2 q0 _ he
    | k + 1, hk => simp at hk
  · exact hAf q (Nat.le_trans hS.1 h)
theorem k_callK (C : Cx p s m args meth c cc nL own ret Ts g) (hao : AO2 s) (hAB : ∀ q, A q → geB g q) (hAf : ∀ q, s.heap.size ≤ q → A q) {y : MethodName} {bytes : ByteArray} {maxL mc ms n index : Nat} {wd : List Cond} {rm : Room} {b q0 : Nat} {e0 : va_E} {As rest : List Value} {ok : va_E → va_W → Prop}
    (hM : ∀ sz, Met l y wd rm (PreK g [(b, e0)] sz (.ref b :: As)) (PoLv g (fun ws2 => ∃ e1 r, ws2 = (b, e1) :: r ∧ ok e1 r) (va_A [(b, e0)] sz)) mc ms (va_A [(b, e0)] sz)) (cw : CallB R s args own index y bytes maxL none wd rm mc ms n ∧ y.name = "<init>" ∧ (Cond.instanceMethod y).before args s = true) (he : ws[q0]? = some (b, e0)) (hn : As.length = n) (hst : st = As.reverse ++ .ref b :: rest) (hW8 : (rest.map fun v => v.category).sum ≤ 8) (hdg : decode cc pc = .ok (.invokespecial index, 3)) (hf : cells + mc ≤ R.cells ∧ slots + ms ≤ R.slots)
    (kk : ∀ e1 r, ok e1 r → JG p l e R s m args below meth c nL A Q (VW g A (ws.set q0 (b, e1) ++ r)) (cells + mc) (slots + ms) L (pc + 3) rest) : JG p l e R s m args below meth c nL A Q (VW g A ws) cells slots L pc st := by
  intro H locs ls hW hS hl
  have hsub := one_A hAf hW he hS
  refine va_callv (va_runI (As := As) (rest := rest) C.fix (hM H.size) cw ⟨fb_preK, fun U hU hw => k_preK C hao hAB hW he hS hU hw⟩ rfl hn hl.1 hst (lv_room hW8) hdg hf) hS (fun q _ h => hsub q h) hsub (fun u t H1 locs1 ht hvm hp hB hz hk hS1 => ?_)
  obtain ⟨e1, r, rfl, hok⟩ := hp
  have hV : VW g (va_A [(b, e0)] H.size) ((b, e1) :: r) t.heap := hB
  rw [ht] at hV
  exact kk e1 r hok H1 locs1 ls (vw_join hW he (fun q hq => hAf q (Nat.le_trans hS.1 hq)) (fun q h1 h2 => hk q h1 (one_off h1 h2)) hV) hS1 hl
theorem k_callN (C : Cx p s m args meth c cc nL own ret Ts g) (hao : AO2 s) (hAB : ∀ q, A q → geB g q) (hAf : ∀ q, s.heap.size ≤ q → A q) {y : MethodName} {bytes : ByteArray} {maxL mc ms n index : Nat} {wd : List Cond} {rm : Room} {b q0 : Nat} {e0 : va_E} {As rest : List Value} {host : String} {ok : va_E → va_W → Prop}
    (hM : ∀ sz, Met l y wd rm (PreK g [(b, e0)] sz (.ref b :: As)) (PoLv g (fun ws2 => ∃ e1 r, ws2 = (b, e1) :: r ∧ ok e1 r) (va_A [(b, e0)] sz)) mc ms (va_A [(b, e0)] sz)) (cw : va_CN R s args own index y host bytes maxL none wd rm mc ms n ∧ y.name = "<init>" ∧ (Cond.instanceMethod y).before args s = true) (he : ws[q0]? = some (b, e0)) (hn : As.length = n) (hst : st = As.reverse ++ .ref b :: rest) (hW8 : (rest.map fun v => v.category).sum ≤ 8) (hdg : decode cc pc = .ok (.invokespecial index, 3)) (hf : cells + mc ≤ R.cells ∧ slots + ms ≤ R.slots)
    (kk : ∀ e1 r, ok e1 r → JG p l e R s m args below meth c nL A Q (VW g A (ws.set q0 (b, e1) ++ r)) (cells + mc) (slots + ms) L (pc + 3) rest) : JG p l e R s m args below meth c nL A Q (VW g A ws) cells slots L pc st := by
  intro H locs ls hW hS hl
  have hsub := one_A hAf hW he hS
  refine va_callv (va_runIN (As := As) (rest := rest) C.fix (hM H.size) cw ⟨fb_preK, fun U hU hw => k_preK C hao hAB hW he hS hU hw⟩ rfl hn hl.1 hst (lv_room hW8) hdg hf) hS (fun q _ h => hsub q h) hsub (fun u t H1 locs1 ht hvm hp hB hz hk hS1 => ?_)
  obtain ⟨e1, r, rfl, hok⟩ := hp
  have hV : VW g (va_A [(b, e0)] H.size) ((b, e1) :: r) t.heap := hB
  rw [ht] at hV
  exact kk e1 r hok H1 locs1 ls (vw_join hW he (fun q hq => hAf q (Nat.le_trans hS.1 hq)) (fun q h1 h2 => hk q h1 (one_off h1 h2)) hV) hS1 hl
/-- a new list -/
theorem k_callL (C : Cx p s m args meth c cc nL own ret Ts g) (hao : AO2 s) (hAB : ∀ q, A q → geB g q) (hAf : ∀ q, s.heap.size ≤ q → A q) {index : Nat} {b q0 : Nat} {v1 : Value} {m0 n0 : Int32} {rest : List Value}
    (cw : CallB R s args own index yJx4a65c_init_da8c8 cJx4a65c_init_da8c8 1 none (WS yJx4a65c_init_da8c8 cJx4a65c_init_da8c8 1 none) rm_lini 0 0 0 ∧ yJx4a65c_init_da8c8.name = "<init>" ∧ (Cond.instanceMethod yJx4a65c_init_da8c8).before args s = true) (he : ws[q0]? = some (b, .inr (0, [.int m0, v1, .int n0]))) (hW8 : (rest.map fun v => v.category).sum ≤ 8) (hdg : decode cc pc = .ok (.invokespecial index, 3)) (hf : cells + 0 ≤ R.cells ∧ slots + 0 ≤ R.slots)
    (kk : JG p l e R s m args below meth c nL A Q (VW g A (ws.set q0 (b, .inr (0, [.int 0, .ref g.2.2.1, .int n0])))) cells slots L (pc + 3) rest) : JG p l e R s m args below meth c nL A Q (VW g A ws) cells slots L pc (.ref b :: rest) := by
  intro H locs ls hW hS hl
  have hsub := one_A hAf hW he hS
  refine va_callv (va_runI (As := []) (rest := rest) C.fix (c_lini (ws := [(b, .inr (0, [.int m0, v1, .int n0]))]) (Cn := RX4) (Y := fun _ => False) rfl H.size) cw ⟨fb_preL, fun U hU hw => (k_preK C hao hAB hW he hS hU hw).1⟩ rfl rfl hl.1 rfl (lv_room hW8) hdg hf) hS (fun q _ h => hsub q h) hsub (fun u t H1 locs1 ht hvm hp hB hz hk hS1 => ?_)
  have hV : VW g (va_A [(b, .inr (0, [.int m0, v1, .int n0]))] H.size) u t.heap := hB
  rw [ht] at hV
  have h0 : u[0]? = some (b, .inr (0, [.int 0, .ref g.2.2.1, .int n0])) := hp
  have hat := hV.1 0 _ h0
  have hV1 : VW g (va_A [(b, .inr (0, [.int m0, v1, .int n0]))] H.size) ((b, .inr (0, [.int 0, .ref g.2.2.1, .int n0])) :: []) H1 := by
    refine ⟨fun k x hx => ?_, ?_⟩
    · match k, hx with
      | 0, hx => cases hx; exact hat
      | k + 1, hx => simp at hx
    · exact one_vd (A := va_A [(b, .inr (0, [.int m0, v1, .int n0]))] H.size) (ws := u) (q0 := 0) hV.2 h0 (fun q h => h)
  have := vw_join hW he (fun q hq => hAf q (Nat.le_trans hS.1 hq)) (fun q h1 h2 => hk q h1 (one_off h1 h2)) hV1
  rw [List.append_nil] at this
  exact kk H1 locs1 ls this hS1 hl
theorem k_ws (h : ws = ws') (kk : JG p l e R s m args below meth c nL A Q (VW g A ws') cells slots L pc st) : JG p l e R s m args below meth c nL A Q (VW g A ws) cells slots L pc st := by
  subst h; exact kk
end MKA
