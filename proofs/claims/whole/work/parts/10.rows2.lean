theorem in_X0 : ∀ w ∈ u_ws RX0 TX0 3, w ∈ COM := by
  intro w hw
  have hw : w ∈ [u_lay RX0 TX0 0, u_lay RX0 TX0 1, u_lay RX0 TX0 2] := hw
  simp only [List.mem_cons, List.not_mem_nil, or_false] at hw
  rcases hw with rfl | rfl | rfl
  · exact mw_195
  · exact mw_197
  · exact mw_199
theorem in_X1 : ∀ w ∈ u_ws RX1 TX1 5, w ∈ COM := by
  intro w hw
  have hw : w ∈ [u_lay RX1 TX1 0, u_lay RX1 TX1 1, u_lay RX1 TX1 2, u_lay RX1 TX1 3, u_lay RX1 TX1 4] := hw
  simp only [List.mem_cons, List.not_mem_nil, or_false] at hw
  rcases hw with rfl | rfl | rfl | rfl | rfl
  · exact mw_236
  · exact mw_238
  · exact mw_240
  · exact mw_242
  · exact mw_244
theorem in_X2 : ∀ w ∈ u_ws RX2 TX2 4, w ∈ COM := by
  intro w hw
  have hw : w ∈ [u_lay RX2 TX2 0, u_lay RX2 TX2 1, u_lay RX2 TX2 2, u_lay RX2 TX2 3] := hw
  simp only [List.mem_cons, List.not_mem_nil, or_false] at hw
  rcases hw with rfl | rfl | rfl | rfl
  · exact mw_141
  · exact mw_143
  · exact mw_145
  · exact mw_147
theorem in_X3 : ∀ w ∈ u_ws RX3 TX3 4, w ∈ COM := by
  intro w hw
  have hw : w ∈ [u_lay RX3 TX3 0, u_lay RX3 TX3 1, u_lay RX3 TX3 2, u_lay RX3 TX3 3] := hw
  simp only [List.mem_cons, List.not_mem_nil, or_false] at hw
  rcases hw with rfl | rfl | rfl | rfl
  · exact mw_216
  · exact mw_218
  · exact mw_220
  · exact mw_222
theorem in_X4 : ∀ w ∈ u_ws RX4 TX4 6, w ∈ COM := by
  intro w hw
  have hw : w ∈ [u_lay RX4 TX4 0, u_lay RX4 TX4 1, u_lay RX4 TX4 2, u_lay RX4 TX4 3, u_lay RX4 TX4 4, u_lay RX4 TX4 5] := hw
  simp only [List.mem_cons, List.not_mem_nil, or_false] at hw
  rcases hw with rfl | rfl | rfl | rfl | rfl | rfl
  · exact mw_353
  · exact mw_355
  · exact mw_357
  · exact mw_359
  · exact mw_361
  · exact mw_363
theorem in_X5 : ∀ w ∈ u_ws RX5 TX5 6, w ∈ COM := by
  intro w hw
  have hw : w ∈ [u_lay RX5 TX5 0, u_lay RX5 TX5 1, u_lay RX5 TX5 2, u_lay RX5 TX5 3, u_lay RX5 TX5 4, u_lay RX5 TX5 5] := hw
  simp only [List.mem_cons, List.not_mem_nil, or_false] at hw
  rcases hw with rfl | rfl | rfl | rfl | rfl | rfl
  · exact mw_667
  · exact mw_669
  · exact mw_671
  · exact mw_673
  · exact mw_675
  · exact mw_677
theorem in_X6 : ∀ w ∈ u_ws RX6 TX6 2, w ∈ COM := by
  intro w hw
  have hw : w ∈ [u_lay RX6 TX6 0, u_lay RX6 TX6 1] := hw
  simp only [List.mem_cons, List.not_mem_nil, or_false] at hw
  rcases hw with rfl | rfl
  · exact mw_936
  · exact mw_938
theorem in_X7 : ∀ w ∈ u_ws RX7 TX7 8, w ∈ COM := by
  intro w hw
  have hw : w ∈ [u_lay RX7 TX7 0, u_lay RX7 TX7 1, u_lay RX7 TX7 2, u_lay RX7 TX7 3, u_lay RX7 TX7 4, u_lay RX7 TX7 5, u_lay RX7 TX7 6, u_lay RX7 TX7 7] := hw
  simp only [List.mem_cons, List.not_mem_nil, or_false] at hw
  rcases hw with rfl | rfl | rfl | rfl | rfl | rfl | rfl | rfl
  · exact mw_172
  · exact mw_174
  · exact mw_176
  · exact mw_178
  · exact mw_180
  · exact mw_182
  · exact mw_184
  · exact mw_186
theorem in_X9 : ∀ w ∈ u_ws RX9 TX9 4, w ∈ COM := by
  intro w hw
  have hw : w ∈ [u_lay RX9 TX9 0, u_lay RX9 TX9 1, u_lay RX9 TX9 2, u_lay RX9 TX9 3] := hw
  simp only [List.mem_cons, List.not_mem_nil, or_false] at hw
  rcases hw with rfl | rfl | rfl | rfl
  · exact mw_259
  · exact mw_261
  · exact mw_263
  · exact mw_265
theorem in_X10 : ∀ w ∈ u_ws RX10 TX10 5, w ∈ COM := by
  intro w hw
  have hw : w ∈ [u_lay RX10 TX10 0, u_lay RX10 TX10 1, u_lay RX10 TX10 2, u_lay RX10 TX10 3, u_lay RX10 TX10 4] := hw
  simp only [List.mem_cons, List.not_mem_nil, or_false] at hw
  rcases hw with rfl | rfl | rfl | rfl | rfl
  · exact mw_273
  · exact mw_275
  · exact mw_277
  · exact mw_279
  · exact mw_281
theorem in_X11 : ∀ w ∈ u_ws RX11 TX11 32, w ∈ COM := by
  intro w hw
  have hw : w ∈ [u_lay RX11 TX11 0, u_lay RX11 TX11 1, u_lay RX11 TX11 2, u_lay RX11 TX11 3, u_lay RX11 TX11 4, u_lay RX11 TX11 5, u_lay RX11 TX11 6, u_lay RX11 TX11 7, u_lay RX11 TX11 8, u_lay RX11 TX11 9, u_lay RX11 TX11 10, u_lay RX11 TX11 11, u_lay RX11 TX11 12, u_lay RX11 TX11 13, u_lay RX11 TX11 14, u_lay RX11 TX11 15, u_lay RX11 TX11 16, u_lay RX11 TX11 17, u_lay RX11 TX11 18, u_lay RX11 TX11 19, u_lay RX11 TX11 20, u_lay RX11 TX11 21, u_lay RX11 TX11 22, u_lay RX11 TX11 23, u_lay RX11 TX11 24, u_lay RX11 TX11 25, u_lay RX11 TX11 26, u_lay RX11 TX11 27, u_lay RX11 TX11 28, u_lay RX11 TX11 29, u_lay RX11 TX11 30, u_lay RX11 TX11 31] := hw
  simp only [List.mem_cons, List.not_mem_nil, or_false] at hw
  rcases hw with rfl | rfl | rfl | rfl | rfl | rfl | rfl | rfl | rfl | rfl | rfl | rfl | rfl | rfl | rfl | rfl | rfl | rfl | rfl | rfl | rfl | rfl | rfl | rfl | rfl | rfl | rfl | rfl | rfl | rfl | rfl | rfl
  · exact mw_1037
  · exact mw_1039
  · exact mw_1041
  · exact mw_1043
  · exact mw_1045
  · exact mw_1047
  · exact mw_1049
  · exact mw_1051
  · exact mw_1053
  · exact mw_1055
  · exact mw_1057
  · exact mw_1059
  · exact mw_1061
  · exact mw_1063
  · exact mw_1065
  · exact mw_1067
  · exact mw_1069
  · exact mw_1071
  · exact mw_1073
  · exact mw_1075
  · exact mw_1077
  · exact mw_1079
  · exact mw_1081
  · exact mw_1083
  · exact mw_1085
  · exact mw_1087
  · exact mw_1089
  · exact mw_1091
  · exact mw_1093
  · exact mw_1095
  · exact mw_1097
  · exact mw_1099
section RBD
variable {p : Program} {l : Launch} {e : Env} {R : Room} {s : State} {m : MethodId} {args : Array Value} {below : List Frame} {meth : Method} {c : Code} {Q : State → Prop}
variable {cc : ByteArray} {nL : Nat} {own : String} {ret : Option FieldType} {Ts : List Cond} {g : Gc} {ad : Nat → Nat → Nat} {χ χ' : Mem} {T T' : Nat → Mem} {σ σ' : Mem} {A : Nat → Prop} {Wp : Heap → Prop} {cells slots : Nat} {L L' : List (Nat × Value)} {pc : Nat} {st : List Value}
/-! functions that a guard may stop -/
theorem gd_some {α : Type} {P : Prop} [Decidable P] {a : Option α} {r : α} (h : (if P then a else none) = some r) : P ∧ a = some r := by
  by_cases q : P
  · rw [if_pos q] at h; exact ⟨q, h⟩
  · rw [if_neg q] at h; cases h
theorem gz_some {α : Type} {P : Prop} [Decidable P] {a : Option α} {r : α} (h : (if P then none else a) = some r) : ¬ P ∧ a = some r := by
  by_cases q : P
  · rw [if_pos q] at h; cases h
  · rw [if_neg q] at h; exact ⟨q, h⟩
theorem bi_some {α β : Type} {o : Option α} {f : α → Option β} {r : β} (h : o.bind f = some r) : ∃ q, o = some q ∧ f q = some r := by
  cases o with
  | none => cases h
  | some q => exact ⟨q, rfl, h⟩
theorem inB_lt {i : Int32} {n : Nat} (h : inB i n = true) : i.toNatClampNeg < n := Nat.not_le.mp fun q => (inB_in h) (Or.inr q)
/-- the fuel of a loop whose turns are many -/
def FU : Nat := 2000
theorem j_metW {l : Launch} {g : Gc} {ad : Nat → Nat → Nat} {χ : Mem} {T : Nat → Mem} {σ : Mem} {y : MethodName} {rm : Room} {av : List Value} {Qc : Array Value → State → Outcome → State → Prop} {mc ms : Nat} {free : Addr → Prop} {cc : ByteArray} {maxL : Nat} {ret : Option FieldType}
    (hy : plainName y.cls = true) (hlen : (lg_sl av).length ≤ maxL)
    (body : ∀ (p : Program) (e : Env) (s : State) (m : MethodId) (below : List Frame) (meth : Method) (c : Code), Cx p s m av.toArray meth c cc maxL y.cls ret COM g → meth.name = y.name →
      JJ p l e rm s m av.toArray below meth c maxL g ad (MQ below Qc av.toArray s mc ms free) χ T σ 0 0 (lv_args 0 av) 0 []) : Met l y (WS y cc maxL ret) rm (PreW g ad χ T σ av) Qc mc ms free :=
  j_met hy rfl hlen fun p e s m below meth c C hn => body p e s m below meth c ⟨C.1, C.2.1, C.2.2.1, C.2.2.2.1, fun w hw => C.2.2.2.2.1 w (List.mem_cons_of_mem _ hw), C.2.2.2.2.2⟩ hn
/-! getfield, putfield, arrays by one write's bundle -/
theorem j_putI (C : Cx p s m args meth c cc nL own ret Ts g) {ref Cn : String} {TT : u_T} {N ci index k i : Nat} {fs : List Value} (hin : ∀ w ∈ u_ws Cn TT N, w ∈ Ts) {ty0 : Nat → FieldType} (hty : ∀ k, k < N → parseFieldDescriptor (TT k).2.2.1 = some (ty0 k)) (hnm : ∀ a, a < N → ∀ b, b < N → a ≠ b → (TT a).2.1 ≠ (TT b).2.1) (hc : vwCl[ci]? = some (Cn, TT, N)) (q : Nat) (hq : q < N) {v : Int32}
    (hk : k ≠ 17) (hp : PO g ad χ T σ χ' T' σ' k i (.inr (ci, fs)) (.inr (ci, fs.set q (.int v))))
    (hlink : Cond.fieldLink own index ref (TT q).2.1 (TT q).2.2.1 ∈ Ts) (hsame : ∀ x, s.fieldFound? (TT q).1 (TT q).2.1 (TT q).2.2.1 = some x → s.fieldFound? ref (TT q).2.1 (TT q).2.2.1 = some x) (hfin : (TT q).2.2.2 = false) (hd : parseFieldDescriptor (TT q).2.2.1 = some .int) (hlf : q < fs.length) (hdg : decode cc pc = .ok (.putfield index, 3))
    (kk : JJ p l e R s m args below meth c nL g ad Q χ' T' σ' cells slots L (pc + 3) st) : JJ p l e R s m args below meth c nL g ad Q χ T σ cells slots L pc (.int v :: .ref (ad k i) :: st) :=
  j_putG C hin ty0 hty hnm hc q hq hk hp.1 hp.2.1 hp.2.2.1 hp.2.2.2.1 hp.2.2.2.2 hlink hsame hfin hd rfl rfl hlf hdg kk
theorem j_putZ (C : Cx p s m args meth c cc nL own ret Ts g) {ref Cn : String} {TT : u_T} {N ci index k i : Nat} {fs : List Value} (hin : ∀ w ∈ u_ws Cn TT N, w ∈ Ts) {ty0 : Nat → FieldType} (hty : ∀ k, k < N → parseFieldDescriptor (TT k).2.2.1 = some (ty0 k)) (hnm : ∀ a, a < N → ∀ b, b < N → a ≠ b → (TT a).2.1 ≠ (TT b).2.1) (hc : vwCl[ci]? = some (Cn, TT, N)) (q : Nat) (hq : q < N) {v : Int32} (hbo : v = 0 ∨ v = 1)
    (hk : k ≠ 17) (hp : PO g ad χ T σ χ' T' σ' k i (.inr (ci, fs)) (.inr (ci, fs.set q (.int v))))
    (hlink : Cond.fieldLink own index ref (TT q).2.1 (TT q).2.2.1 ∈ Ts) (hsame : ∀ x, s.fieldFound? (TT q).1 (TT q).2.1 (TT q).2.2.1 = some x → s.fieldFound? ref (TT q).2.1 (TT q).2.2.1 = some x) (hfin : (TT q).2.2.2 = false) (hd : parseFieldDescriptor (TT q).2.2.1 = some .boolean) (hlf : q < fs.length) (hdg : decode cc pc = .ok (.putfield index, 3))
    (kk : JJ p l e R s m args below meth c nL g ad Q χ' T' σ' cells slots L (pc + 3) st) : JJ p l e R s m args below meth c nL g ad Q χ T σ cells slots L pc (.int v :: .ref (ad k i) :: st) :=
  j_putG C hin ty0 hty hnm hc q hq hk hp.1 hp.2.1 hp.2.2.1 hp.2.2.2.1 hp.2.2.2.2 hlink hsame hfin hd (bo_nar hbo) (bo_fit hbo) hlf hdg kk
theorem j_iastP (C : Cx p s m args meth c cc nL own ret Ts g) {k i n : Nat} {f : Nat → Int32} {x v : Int32} (hk : k ≠ 17) (hp : PO g ad χ T σ χ' T' σ' k i (aI g n f) (aI g n (upd f x.toNatClampNeg v))) (hin : inB x n = true) (hdg : decode cc pc = .ok (.iastore, 1))
    (kk : JJ p l e R s m args below meth c nL g ad Q χ' T' σ' cells slots L (pc + 1) st) : JJ p l e R s m args below meth c nL g ad Q χ T σ cells slots L pc (.int v :: .int x :: .ref (ad k i) :: st) :=
  j_iast C hk hp.1 hp.2.1 hp.2.2.1 hp.2.2.2.1 hp.2.2.2.2 hin hdg kk
theorem j_zastP (C : Cx p s m args meth c cc nL own ret Ts g) {k i n : Nat} {f : Nat → Int32} {x v : Int32} (hbo : v = 0 ∨ v = 1) (hk : k ≠ 17) (hp : PO g ad χ T σ χ' T' σ' k i (aZ g n f) (aZ g n (upd f x.toNatClampNeg v))) (hin : inB x n = true) (hdg : decode cc pc = .ok (.bastore, 1))
    (kk : JJ p l e R s m args below meth c nL g ad Q χ' T' σ' cells slots L (pc + 1) st) : JJ p l e R s m args below meth c nL g ad Q χ T σ cells slots L pc (.int v :: .int x :: .ref (ad k i) :: st) :=
  j_zast C hbo hk hp.1 hp.2.1 hp.2.2.1 hp.2.2.2.1 hp.2.2.2.2 hin hdg kk
theorem j_lastP (C : Cx p s m args meth c cc nL own ret Ts g) {k i n : Nat} {f : Nat → Int64} {x : Int32} {v : Int64} (hk : k ≠ 17) (hp : PO g ad χ T σ χ' T' σ' k i (aL g n f) (aL g n (vp_updL f x.toNatClampNeg v))) (hin : inB x n = true) (hdg : decode cc pc = .ok (.lastore, 1))
    (kk : JJ p l e R s m args below meth c nL g ad Q χ' T' σ' cells slots L (pc + 1) st) : JJ p l e R s m args below meth c nL g ad Q χ T σ cells slots L pc (.long v :: .int x :: .ref (ad k i) :: st) :=
  j_last C hk hp.1 hp.2.1 hp.2.2.1 hp.2.2.2.1 hp.2.2.2.2 hin hdg kk
/-- a row of a table, out of its array of rows -/
theorem j_tabrow (C : Cx p s m args meth c cc nL own ret Ts g) {t : Nat} {τ : Mem} {x : Int32} (ht : t < 3) (hin : inB x 15 = true) (hdg : decode cc pc = .ok (.aaload, 1))
    (kk : JJ p l e R s m args below meth c nL g ad Q χ (stT T t τ) σ cells slots L (pc + 1) (.ref (ad 11 (15 * t + x.toNatClampNeg)) :: st)) : JJ p l e R s m args below meth c nL g ad Q χ (stT T t τ) σ cells slots L pc (.int x :: .ref (ad 10 t) :: st) := by
  refine j_aald C 5 (.array .long) rfl rfl (by decide) (cw_10 ht) hin hdg ?_
  rw [if_pos (inB_lt hin)]
  exact kk
/-! Math -/
theorem j_absL (C : Cx p s m args meth c cc nL own ret Ts g) {index : Nat} (hlink : Cond.methodLink own index Lib.MathLoose.abs_long.x ∈ Ts) (hstat : Cond.static Lib.MathLoose.abs_long.x ∈ Ts) (hini : Cond.initialized "java/lang/Math" ∈ Ts) (hcode : Cond.code Lib.MathLoose.abs_long.x Lib.MathLoose.abs_long.code 2 (some .long) ∈ Ts) (hfr : 1 ≤ R.frames) (hlo : (st.map fun v => v.category).sum + 13 ≤ R.locals) (hc : cells ≤ R.cells) (hs : slots ≤ R.slots) {x : Int64} (hdg : decode cc pc = .ok (.invokestatic index, 3))
    (kk : JG p l e R s m args below meth c nL A Q Wp cells slots L (pc + 3) (.long (if 0 < x then x else -x) :: st)) : JG p l e R s m args below meth c nL A Q Wp cells slots L pc (.long x :: st) :=
  fun H locs ls hW hS hl => va_mabs_long C.x C.b (C.ml.trans hl.1.symm) C.ow (C.ts _ hlink) (C.ts _ hstat) (C.ts _ hini) (C.ts _ hcode) hfr hlo hc hs hdg (kk H locs ls hW hS hl)
theorem j_maxI (C : Cx p s m args meth c cc nL own ret Ts g) {index : Nat} (hlink : Cond.methodLink own index Lib.Math.max.name ∈ Ts) (hstat : Cond.static Lib.Math.max.name ∈ Ts) (hini : Cond.initialized "java/lang/Math" ∈ Ts) (hcode : Cond.code Lib.Math.max.name Lib.Math.max.code 2 (some .int) ∈ Ts) (hfr : 1 ≤ R.frames) (hlo : (st.map fun v => v.category).sum + 13 ≤ R.locals) (hc : cells ≤ R.cells) (hs : slots ≤ R.slots) {x y : Int32} (hdg : decode cc pc = .ok (.invokestatic index, 3))
    (kk : JG p l e R s m args below meth c nL A Q Wp cells slots L (pc + 3) (.int (if x < y then y else x) :: st)) : JG p l e R s m args below meth c nL A Q Wp cells slots L pc (.int y :: .int x :: st) :=
  fun H locs ls hW hS hl => va_mmax C.x C.b (C.ml.trans hl.1.symm) C.ow (C.ts _ hlink) (C.ts _ hstat) (C.ts _ hini) (C.ts _ hcode) hfr hlo hc hs hdg (kk H locs ls hW hS hl)
theorem j_minI (C : Cx p s m args meth c cc nL own ret Ts g) {index : Nat} (hlink : Cond.methodLink own index Lib.Math.min.name ∈ Ts) (hstat : Cond.static Lib.Math.min.name ∈ Ts) (hini : Cond.initialized "java/lang/Math" ∈ Ts) (hcode : Cond.code Lib.Math.min.name Lib.Math.min.code 2 (some .int) ∈ Ts) (hfr : 1 ≤ R.frames) (hlo : (st.map fun v => v.category).sum + 13 ≤ R.locals) (hc : cells ≤ R.cells) (hs : slots ≤ R.slots) {x y : Int32} (hdg : decode cc pc = .ok (.invokestatic index, 3))
    (kk : JG p l e R s m args below meth c nL A Q Wp cells slots L (pc + 3) (.int (if y < x then y else x) :: st)) : JG p l e R s m args below meth c nL A Q Wp cells slots L pc (.int y :: .int x :: st) :=
  fun H locs ls hW hS hl => va_mmin C.x C.b (C.ml.trans hl.1.symm) C.ow (C.ts _ hlink) (C.ts _ hstat) (C.ts _ hini) (C.ts _ hcode) hfr hlo hc hs hdg (kk H locs ls hW hS hl)
theorem j_ldcI (C : Cx p s m args meth c cc nL own ret Ts g) {index : Nat} {v : Int32} (hconst : Cond.constant own index v ∈ Ts) (hdg : decode cc pc = .ok (.ldc index, 2)) (kk : JG p l e R s m args below meth c nL A Q Wp cells slots L (pc + 2) (.int v :: st)) : JG p l e R s m args below meth c nL A Q Wp cells slots L pc st :=
  fun H locs ls hW hS hl => lv_ldc C.x C.b C.ow (C.ts _ hconst) hdg (kk H locs ls hW hS hl)
theorem j_ldc2 (C : Cx p s m args meth c cc nL own ret Ts g) {index : Nat} {v : Int64} (hconst : Cond.constantLong own index v ∈ Ts) (hdg : decode cc pc = .ok (.ldc2_w index, 3)) (kk : JG p l e R s m args below meth c nL A Q Wp cells slots L (pc + 3) (.long v :: st)) : JG p l e R s m args below meth c nL A Q Wp cells slots L pc st :=
  fun H locs ls hW hS hl => lv_ldc2 C.x C.b C.ow (C.ts _ hconst) hdg (kk H locs ls hW hS hl)
/-! references compared -/
theorem j_acmp_ne (C : Cx p s m args meth c cc nL own ret Ts g) {k i i' : Nat} {ea eb : va_E} (hk : k ≠ 17) (he : ∀ η, cw g ad χ T σ η k i = some ea) (he' : ∀ η, cw g ad χ T σ η k i' = some eb) {off : Int} {tgt : Nat} (ht : (pc : Int) + off = (tgt : Int)) (hdg : decode cc pc = .ok (.if_acmp .ne off, 3))
    (kt : ¬ i = i' → JJ p l e R s m args below meth c nL g ad Q χ T σ cells slots L tgt st) (kf : i = i' → JJ p l e R s m args below meth c nL g ad Q χ T σ cells slots L (pc + 3) st) : JJ p l e R s m args below meth c nL g ad Q χ T σ cells slots L pc (.ref (ad k i') :: .ref (ad k i) :: st) := by
  intro H locs ls hW hS hl
  exact lv_acmp_ne (rx := some (ad k i)) (ry := some (ad k i')) C.x C.b hdg ht (fun h => kt (fun q => h (by rw [q])) H locs ls hW hS hl) (fun h => kf ((hW.ne hk hk he he' (Option.some.inj h)).2) H locs ls hW hS hl)
theorem j_acmp_eq (C : Cx p s m args meth c cc nL own ret Ts g) {k i i' : Nat} {ea eb : va_E} (hk : k ≠ 17) (he : ∀ η, cw g ad χ T σ η k i = some ea) (he' : ∀ η, cw g ad χ T σ η k i' = some eb) {off : Int} {tgt : Nat} (ht : (pc : Int) + off = (tgt : Int)) (hdg : decode cc pc = .ok (.if_acmp .eq off, 3))
    (kt : i = i' → JJ p l e R s m args below meth c nL g ad Q χ T σ cells slots L tgt st) (kf : ¬ i = i' → JJ p l e R s m args below meth c nL g ad Q χ T σ cells slots L (pc + 3) st) : JJ p l e R s m args below meth c nL g ad Q χ T σ cells slots L pc (.ref (ad k i') :: .ref (ad k i) :: st) := by
  intro H locs ls hW hS hl
  exact lv_acmp_eq (rx := some (ad k i)) (ry := some (ad k i')) C.x C.b hdg ht (fun h => kt ((hW.ne hk hk he he' (Option.some.inj h)).2) H locs ls hW hS hl) (fun h => kf (fun q => h (by rw [q])) H locs ls hW hS hl)
theorem j_ifnullN (C : Cx p s m args meth c cc nL own ret Ts g) {off : Int} {tgt : Nat} (ht : (pc : Int) + off = (tgt : Int)) (hdg : decode cc pc = .ok (.ifnull off, 3)) (kk : JG p l e R s m args below meth c nL A Q Wp cells slots L tgt st) : JG p l e R s m args below meth c nL A Q Wp cells slots L pc (.null :: st) :=
  fun H locs ls hW hS hl => lv_ifnullN C.x C.b hdg ht (kk H locs ls hW hS hl)
theorem j_ifnullS (C : Cx p s m args meth c cc nL own ret Ts g) {a : Nat} {off : Int} (hdg : decode cc pc = .ok (.ifnull off, 3)) (kk : JG p l e R s m args below meth c nL A Q Wp cells slots L (pc + 3) st) : JG p l e R s m args below meth c nL A Q Wp cells slots L pc (.ref a :: st) :=
  fun H locs ls hW hS hl => lv_ifnull C.x C.b hdg (kk H locs ls hW hS hl)
theorem j_ifnonnullS (C : Cx p s m args meth c cc nL own ret Ts g) {a : Nat} {off : Int} {tgt : Nat} (ht : (pc : Int) + off = (tgt : Int)) (hdg : decode cc pc = .ok (.ifnonnull off, 3)) (kk : JG p l e R s m args below meth c nL A Q Wp cells slots L tgt st) : JG p l e R s m args below meth c nL A Q Wp cells slots L pc (.ref a :: st) :=
  fun H locs ls hW hS hl => lv_ifnonnull C.x C.b hdg ht (kk H locs ls hW hS hl)
theorem j_ifnonnullN (C : Cx p s m args meth c cc nL own ret Ts g) {off : Int} (hdg : decode cc pc = .ok (.ifnonnull off, 3)) (kk : JG p l e R s m args below meth c nL A Q Wp cells slots L (pc + 3) st) : JG p l e R s m args below meth c nL A Q Wp cells slots L pc (.null :: st) :=
  fun H locs ls hW hS hl => lv_ifnonnullN C.x C.b hdg (kk H locs ls hW hS hl)
/-- checkcast to the object's own class -/
theorem j_castS (C : Cx p s m args meth c cc nL own ret Ts g) {index k i ci : Nat} {fs : List Value} {q : vw_C} (hlink : Cond.classLink own index q.1 ∈ Ts) (hk : k ≠ 17) (he : ∀ η, cw g ad χ T σ η k i = some (.inr (ci, fs))) (hc : vwCl[ci]? = some q) (hdg : decode cc pc = .ok (.checkcast index, 3))
    (kk : JJ p l e R s m args below meth c nL g ad Q χ T σ cells slots L (pc + 3) (.ref (ad k i) :: st)) : JJ p l e R s m args below meth c nL g ad Q χ T σ cells slots L pc (.ref (ad k i) :: st) :=
  fun H locs ls hW hS hl => va_castS C.x C.b C.ow (C.ts _ hlink) (C.k.1.1 ci q hc).2 (CW.rv C.k hW hk he hc) hdg (kk H locs ls hW hS hl)
theorem j_instS (C : Cx p s m args meth c cc nL own ret Ts g) {index k i ci : Nat} {fs : List Value} {q : vw_C} (hlink : Cond.classLink own index q.1 ∈ Ts) (hk : k ≠ 17) (he : ∀ η, cw g ad χ T σ η k i = some (.inr (ci, fs))) (hc : vwCl[ci]? = some q) (hdg : decode cc pc = .ok (.instanceof index, 3))
    (kk : JJ p l e R s m args below meth c nL g ad Q χ T σ cells slots L (pc + 3) (.int 1 :: st)) : JJ p l e R s m args below meth c nL g ad Q χ T σ cells slots L pc (.ref (ad k i) :: st) :=
  fun H locs ls hW hS hl => va_instS C.x C.b C.ow (C.ts _ hlink) (C.k.1.1 ci q hc).2 (CW.rv C.k hW hk he hc) hdg (kk H locs ls hW hS hl)
theorem j_instN (C : Cx p s m args meth c cc nL own ret Ts g) {index : Nat} (hdg : decode cc pc = .ok (.instanceof index, 3))
    (kk : JG p l e R s m args below meth c nL A Q Wp cells slots L (pc + 3) (.int 0 :: st)) : JG p l e R s m args below meth c nL A Q Wp cells slots L pc (.null :: st) :=
  fun H locs ls hW hS hl => lv_instN C.x C.b hdg (kk H locs ls hW hS hl)
end RBD
