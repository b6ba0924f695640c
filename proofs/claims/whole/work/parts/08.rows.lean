theorem lc_eq (x y : Int64) : lg_cmp x y = 0 ↔ x = y := by
  unfold lg_cmp
  by_cases h : y < x
  · rw [if_pos h]
    refine ⟨fun q => absurd q (by decide), fun q => ?_⟩
    rw [q] at h
    exact absurd h (Int64.lt_irrefl)
  · rw [if_neg h]
    by_cases h2 : x = y
    · rw [if_pos h2]; exact ⟨fun _ => h2, fun _ => rfl⟩
    · rw [if_neg h2]; exact ⟨fun q => absurd q (by decide), fun q => absurd q h2⟩
theorem lc_gt (x y : Int64) : 0 < lg_cmp x y ↔ y < x := by
  unfold lg_cmp
  by_cases h : y < x
  · rw [if_pos h]; exact ⟨fun _ => h, fun _ => by decide⟩
  · rw [if_neg h]
    by_cases h2 : x = y
    · rw [if_pos h2]; exact ⟨fun q => absurd q (by decide), fun q => absurd q h⟩
    · rw [if_neg h2]; exact ⟨fun q => absurd q (by decide), fun q => absurd q h⟩
theorem lc_lt (x y : Int64) : lg_cmp x y < 0 ↔ x < y := by
  unfold lg_cmp
  by_cases h : y < x
  · rw [if_pos h]
    refine ⟨fun q => absurd q (by decide), fun q => ?_⟩
    rw [Int64.lt_iff_toInt_lt] at h q
    omega
  · rw [if_neg h]
    by_cases h2 : x = y
    · rw [if_pos h2]
      refine ⟨fun q => absurd q (by decide), fun q => ?_⟩
      rw [h2] at q
      exact absurd q (Int64.lt_irrefl)
    · rw [if_neg h2]
      refine ⟨fun _ => ?_, fun _ => by decide⟩
      rw [Int64.lt_iff_toInt_lt] at h ⊢
      have : x.toInt ≠ y.toInt := fun q => h2 (Int64.toInt_inj.mp q)
      omega
theorem lc_ge (x y : Int64) : 0 ≤ lg_cmp x y ↔ y ≤ x := by
  have a := lc_lt x y
  rw [Int64.lt_iff_toInt_lt, Int32.lt_iff_toInt_lt] at a
  rw [Int64.le_iff_toInt_le, Int32.le_iff_toInt_le]
  omega
theorem lc_le (x y : Int64) : lg_cmp x y ≤ 0 ↔ x ≤ y := by
  have a := lc_gt x y
  rw [Int64.lt_iff_toInt_lt, Int32.lt_iff_toInt_lt] at a
  rw [Int64.le_iff_toInt_le, Int32.le_iff_toInt_le]
  omega
section RBA
variable {p : Program} {l : Launch} {e : Env} {R : Room} {s : State} {m : MethodId} {args : Array Value} {below : List Frame} {meth : Method} {c : Code} {Q : State → Prop}
variable {cc : ByteArray} {nL : Nat} {own : String} {ret : Option FieldType} {Ts : List Cond} {g : Gc} {ad : Nat → Nat → Nat} {χ : Mem} {T : Nat → Mem} {σ : Mem} {A : Nat → Prop} {Wp : Heap → Prop} {cells slots : Nat} {L L' : List (Nat × Value)} {pc : Nat} {st : List Value}
/-- the judgement of a frame over a world: from every heap that holds it -/
def JG (p : Program) (l : Launch) (e : Env) (R : Room) (s : State) (m : MethodId) (args : Array Value) (below : List Frame) (meth : Method) (c : Code) (nL : Nat) (A : Nat → Prop) (Q : State → Prop) (Wp : Heap → Prop) (cells slots : Nat) (L : List (Nat × Value)) (pc : Nat) (st : List Value) : Prop :=
  ∀ (H : Heap) (locs : List Loc) (ls : Array Slot), Wp H → va_S A s.heap H locs → lv_has ls nL L → W p l e R s m args below meth c H locs cells slots Q (F0 m pc ls st)
abbrev JJ (p : Program) (l : Launch) (e : Env) (R : Room) (s : State) (m : MethodId) (args : Array Value) (below : List Frame) (meth : Method) (c : Code) (nL : Nat) (g : Gc) (ad : Nat → Nat → Nat) (Q : State → Prop) (χ : Mem) (T : Nat → Mem) (σ : Mem) (cells slots : Nat) (L : List (Nat × Value)) (pc : Nat) (st : List Value) : Prop :=
  JG p l e R s m args below meth c nL (geB g) Q (CW g ad χ T σ) cells slots L pc st
/-- what stays the same all through a method -/
def Cx (p : Program) (s : State) (m : MethodId) (args : Array Value) (meth : Method) (c : Code) (cc : ByteArray) (nL : Nat) (own : String) (ret : Option FieldType) (Ts : List Cond) (g : Gc) : Prop :=
  p.tables.exec = Jvm.exec ∧ c.code = cc ∧ c.maxLocals = nL ∧ s.vm.findClass own = some m.cls ∧ (∀ w ∈ Ts, w.before args s = true) ∧ CK g s ∧ CZ g s s.heap ∧ meth.sig.returnType = ret ∧ meth.locks = false ∧ g.2.2.2 ≤ s.heap.size
theorem Cx.x (C : Cx p s m args meth c cc nL own ret Ts g) : p.tables.exec = Jvm.exec := C.1
theorem Cx.b (C : Cx p s m args meth c cc nL own ret Ts g) : c.code = cc := C.2.1
theorem Cx.ml (C : Cx p s m args meth c cc nL own ret Ts g) : c.maxLocals = nL := C.2.2.1
theorem Cx.ow (C : Cx p s m args meth c cc nL own ret Ts g) : s.vm.findClass own = some m.cls := C.2.2.2.1
theorem Cx.ts (C : Cx p s m args meth c cc nL own ret Ts g) : ∀ w ∈ Ts, w.before args s = true := C.2.2.2.2.1
theorem Cx.k (C : Cx p s m args meth c cc nL own ret Ts g) : CK g s := C.2.2.2.2.2.1
theorem Cx.z (C : Cx p s m args meth c cc nL own ret Ts g) : CZ g s s.heap := C.2.2.2.2.2.2.1
theorem Cx.r (C : Cx p s m args meth c cc nL own ret Ts g) : meth.sig.returnType = ret := C.2.2.2.2.2.2.2.1
theorem Cx.lk (C : Cx p s m args meth c cc nL own ret Ts g) : meth.locks = false := C.2.2.2.2.2.2.2.2.1
theorem Cx.bs (C : Cx p s m args meth c cc nL own ret Ts g) : g.2.2.2 ≤ s.heap.size := C.2.2.2.2.2.2.2.2.2
theorem Cx.fix (C : Cx p s m args meth c cc nL own ret Ts g) : CallFix p m c cc nL s args Ts own := ⟨C.1, C.2.1, C.2.2.1, C.2.2.2.1, C.2.2.2.2.1⟩
theorem Cx.hA (C : Cx p s m args meth c cc nL own ret Ts g) : ∀ q : Nat, s.heap.size ≤ q → geB g q := fun _ h => Nat.le_trans C.bs h
theorem j_wt (kk : WT χ → JJ p l e R s m args below meth c nL g ad Q χ T σ cells slots L pc st) : JJ p l e R s m args below meth c nL g ad Q χ T σ cells slots L pc st :=
  fun H locs ls hW hS hl => kk hW.wt H locs ls hW hS hl
theorem j_sub (ks : List Nat) (hp : lv_pick L ks = L') (kk : JG p l e R s m args below meth c nL A Q Wp cells slots L' pc st) : JG p l e R s m args below meth c nL A Q Wp cells slots L pc st :=
  fun H locs ls hW hS hl => kk H locs ls hW hS (lv_sub hl ks hp)
theorem j_widen {k n : Nat} (h1 : cells ≤ k) (h2 : slots ≤ n) (kk : JG p l e R s m args below meth c nL A Q Wp k n L pc st) : JG p l e R s m args below meth c nL A Q Wp cells slots L pc st :=
  fun H locs ls hW hS hl => W.widen h1 h2 (kk H locs ls hW hS hl)
theorem j_iconst (C : Cx p s m args meth c cc nL own ret Ts g) {n : Int} {v : Int32} (hv : Int32.ofInt n = v) (hdg : decode cc pc = .ok (.iconst n, 1)) (kk : JG p l e R s m args below meth c nL A Q Wp cells slots L (pc + 1) (.int v :: st)) : JG p l e R s m args below meth c nL A Q Wp cells slots L pc st :=
  fun H locs ls hW hS hl => lv_iconst C.x C.b hdg hv (kk H locs ls hW hS hl)
theorem j_bipush (C : Cx p s m args meth c cc nL own ret Ts g) {n : Int} {v : Int32} (hv : (Int8.ofInt n).toInt32 = v) (hdg : decode cc pc = .ok (.bipush n, 2)) (kk : JG p l e R s m args below meth c nL A Q Wp cells slots L (pc + 2) (.int v :: st)) : JG p l e R s m args below meth c nL A Q Wp cells slots L pc st :=
  fun H locs ls hW hS hl => lv_bipush C.x C.b hdg hv (kk H locs ls hW hS hl)
theorem j_sipush (C : Cx p s m args meth c cc nL own ret Ts g) {n : Int} {v : Int32} (hv : (Int16.ofInt n).toInt32 = v) (hdg : decode cc pc = .ok (.sipush n, 3)) (kk : JG p l e R s m args below meth c nL A Q Wp cells slots L (pc + 3) (.int v :: st)) : JG p l e R s m args below meth c nL A Q Wp cells slots L pc st :=
  fun H locs ls hW hS hl => lv_sipush C.x C.b hdg hv (kk H locs ls hW hS hl)
theorem j_lconst (C : Cx p s m args meth c cc nL own ret Ts g) {n : Fin 2} {v : Int64} (hv : Int64.ofNat (n : Nat) = v) (hdg : decode cc pc = .ok (.lconst n, 1)) (kk : JG p l e R s m args below meth c nL A Q Wp cells slots L (pc + 1) (.long v :: st)) : JG p l e R s m args below meth c nL A Q Wp cells slots L pc st :=
  fun H locs ls hW hS hl => lv_lconst C.x C.b hdg hv (kk H locs ls hW hS hl)
theorem j_iload_n (C : Cx p s m args meth c cc nL own ret Ts g) (q : Nat) {k : Fin 4} {i : Nat} {x : Int32} (hi : (k : Nat) = i) (hq : L[q]? = some (i, .int x)) (hdg : decode cc pc = .ok (.iload_n k, 1)) (kk : JG p l e R s m args below meth c nL A Q Wp cells slots L (pc + 1) (.int x :: st)) : JG p l e R s m args below meth c nL A Q Wp cells slots L pc st :=
  fun H locs ls hW hS hl => lv_iload_n C.x C.b hdg hi (lv_at hl q hq) (kk H locs ls hW hS hl)
theorem j_iload (C : Cx p s m args meth c cc nL own ret Ts g) (q : Nat) {i : Nat} {x : Int32} (hq : L[q]? = some (i, .int x)) (hdg : decode cc pc = .ok (.iload i, 2)) (kk : JG p l e R s m args below meth c nL A Q Wp cells slots L (pc + 2) (.int x :: st)) : JG p l e R s m args below meth c nL A Q Wp cells slots L pc st :=
  fun H locs ls hW hS hl => lv_iload C.x C.b hdg (lv_at hl q hq) (kk H locs ls hW hS hl)
theorem j_lload_n (C : Cx p s m args meth c cc nL own ret Ts g) (q : Nat) {k : Fin 4} {i : Nat} {x : Int64} (hi : (k : Nat) = i) (hq : L[q]? = some (i, .long x)) (hdg : decode cc pc = .ok (.lload_n k, 1)) (kk : JG p l e R s m args below meth c nL A Q Wp cells slots L (pc + 1) (.long x :: st)) : JG p l e R s m args below meth c nL A Q Wp cells slots L pc st :=
  fun H locs ls hW hS hl => lv_lload_n C.x C.b hdg hi (lv_at hl q hq) (kk H locs ls hW hS hl)
theorem j_lload (C : Cx p s m args meth c cc nL own ret Ts g) (q : Nat) {i : Nat} {x : Int64} (hq : L[q]? = some (i, .long x)) (hdg : decode cc pc = .ok (.lload i, 2)) (kk : JG p l e R s m args below meth c nL A Q Wp cells slots L (pc + 2) (.long x :: st)) : JG p l e R s m args below meth c nL A Q Wp cells slots L pc st :=
  fun H locs ls hW hS hl => lv_lload C.x C.b hdg (lv_at hl q hq) (kk H locs ls hW hS hl)
theorem j_aload_n (C : Cx p s m args meth c cc nL own ret Ts g) (q : Nat) {k : Fin 4} {i x : Nat} (hi : (k : Nat) = i) (hq : L[q]? = some (i, .ref x)) (hdg : decode cc pc = .ok (.aload_n k, 1)) (kk : JG p l e R s m args below meth c nL A Q Wp cells slots L (pc + 1) (.ref x :: st)) : JG p l e R s m args below meth c nL A Q Wp cells slots L pc st :=
  fun H locs ls hW hS hl => lv_aload_n C.x C.b hdg hi (lv_at hl q hq) (kk H locs ls hW hS hl)
theorem j_aload (C : Cx p s m args meth c cc nL own ret Ts g) (q : Nat) {i x : Nat} (hq : L[q]? = some (i, .ref x)) (hdg : decode cc pc = .ok (.aload i, 2)) (kk : JG p l e R s m args below meth c nL A Q Wp cells slots L (pc + 2) (.ref x :: st)) : JG p l e R s m args below meth c nL A Q Wp cells slots L pc st :=
  fun H locs ls hW hS hl => lv_aload C.x C.b hdg (lv_at hl q hq) (kk H locs ls hW hS hl)
theorem j_aload_nR (C : Cx p s m args meth c cc nL own ret Ts g) (q : Nat) {k : Fin 4} {i : Nat} {r : Option Nat} (hi : (k : Nat) = i) (hq : L[q]? = some (i, va_rf r)) (hdg : decode cc pc = .ok (.aload_n k, 1)) (kk : JG p l e R s m args below meth c nL A Q Wp cells slots L (pc + 1) (va_rf r :: st)) : JG p l e R s m args below meth c nL A Q Wp cells slots L pc st :=
  fun H locs ls hW hS hl => by
    cases r with
    | none => exact lv_aload_nN C.x C.b hdg hi (lv_at hl q hq) (kk H locs ls hW hS hl)
    | some a => exact lv_aload_n C.x C.b hdg hi (lv_at hl q hq) (kk H locs ls hW hS hl)
theorem j_aloadR (C : Cx p s m args meth c cc nL own ret Ts g) (q : Nat) {i : Nat} {r : Option Nat} (hq : L[q]? = some (i, va_rf r)) (hdg : decode cc pc = .ok (.aload i, 2)) (kk : JG p l e R s m args below meth c nL A Q Wp cells slots L (pc + 2) (va_rf r :: st)) : JG p l e R s m args below meth c nL A Q Wp cells slots L pc st :=
  fun H locs ls hW hS hl => by
    cases r with
    | none => exact lv_aloadN C.x C.b hdg (lv_at hl q hq) (kk H locs ls hW hS hl)
    | some a => exact lv_aload C.x C.b hdg (lv_at hl q hq) (kk H locs ls hW hS hl)
theorem j_istore_n (C : Cx p s m args meth c cc nL own ret Ts g) {k : Fin 4} {i : Nat} {x : Int32} (hi : (k : Nat) = i) (hn : i < nL) (hl' : (i, Value.int x) :: L.filter (fun q => !(q.1 == i) && !(q.1 + 1 == i && q.2.category == 2)) = L') (hdg : decode cc pc = .ok (.istore_n k, 1)) (kk : JG p l e R s m args below meth c nL A Q Wp cells slots L' (pc + 1) st) : JG p l e R s m args below meth c nL A Q Wp cells slots L pc (.int x :: st) :=
  fun H locs ls hW hS hl => lv_istore_n C.x C.b hdg hi hl hn hl' (fun ls hl => kk H locs ls hW hS hl)
theorem j_istore (C : Cx p s m args meth c cc nL own ret Ts g) {i : Nat} {x : Int32} (hn : i < nL) (hl' : (i, Value.int x) :: L.filter (fun q => !(q.1 == i) && !(q.1 + 1 == i && q.2.category == 2)) = L') (hdg : decode cc pc = .ok (.istore i, 2)) (kk : JG p l e R s m args below meth c nL A Q Wp cells slots L' (pc + 2) st) : JG p l e R s m args below meth c nL A Q Wp cells slots L pc (.int x :: st) :=
  fun H locs ls hW hS hl => lv_istore C.x C.b hdg hl hn hl' (fun ls hl => kk H locs ls hW hS hl)
theorem j_lstore_n (C : Cx p s m args meth c cc nL own ret Ts g) {k : Fin 4} {i : Nat} {x : Int64} (hi : (k : Nat) = i) (hn : i + 1 < nL) (hl' : (i, Value.long x) :: L.filter (fun q => !(q.1 == i) && (!(q.1 == i + 1) && !(q.1 + 1 == i && q.2.category == 2))) = L') (hdg : decode cc pc = .ok (.lstore_n k, 1)) (kk : JG p l e R s m args below meth c nL A Q Wp cells slots L' (pc + 1) st) : JG p l e R s m args below meth c nL A Q Wp cells slots L pc (.long x :: st) :=
  fun H locs ls hW hS hl => lv_lstore_n C.x C.b hdg hi hl hn hl' (fun ls hl => kk H locs ls hW hS hl)
theorem j_lstore (C : Cx p s m args meth c cc nL own ret Ts g) {i : Nat} {x : Int64} (hn : i + 1 < nL) (hl' : (i, Value.long x) :: L.filter (fun q => !(q.1 == i) && (!(q.1 == i + 1) && !(q.1 + 1 == i && q.2.category == 2))) = L') (hdg : decode cc pc = .ok (.lstore i, 2)) (kk : JG p l e R s m args below meth c nL A Q Wp cells slots L' (pc + 2) st) : JG p l e R s m args below meth c nL A Q Wp cells slots L pc (.long x :: st) :=
  fun H locs ls hW hS hl => lv_lstore C.x C.b hdg hl hn hl' (fun ls hl => kk H locs ls hW hS hl)
theorem j_astore_n (C : Cx p s m args meth c cc nL own ret Ts g) {k : Fin 4} {i : Nat} {x : Nat} (hi : (k : Nat) = i) (hn : i < nL) (hl' : (i, Value.ref x) :: L.filter (fun q => !(q.1 == i) && !(q.1 + 1 == i && q.2.category == 2)) = L') (hdg : decode cc pc = .ok (.astore_n k, 1)) (kk : JG p l e R s m args below meth c nL A Q Wp cells slots L' (pc + 1) st) : JG p l e R s m args below meth c nL A Q Wp cells slots L pc (.ref x :: st) :=
  fun H locs ls hW hS hl => lv_astore_n C.x C.b hdg hi hl hn hl' (fun ls hl => kk H locs ls hW hS hl)
theorem j_astore (C : Cx p s m args meth c cc nL own ret Ts g) {i : Nat} {x : Nat} (hn : i < nL) (hl' : (i, Value.ref x) :: L.filter (fun q => !(q.1 == i) && !(q.1 + 1 == i && q.2.category == 2)) = L') (hdg : decode cc pc = .ok (.astore i, 2)) (kk : JG p l e R s m args below meth c nL A Q Wp cells slots L' (pc + 2) st) : JG p l e R s m args below meth c nL A Q Wp cells slots L pc (.ref x :: st) :=
  fun H locs ls hW hS hl => lv_astore C.x C.b hdg hl hn hl' (fun ls hl => kk H locs ls hW hS hl)
theorem j_astore_nR (C : Cx p s m args meth c cc nL own ret Ts g) {k : Fin 4} {i : Nat} {r : Option Nat} (hi : (k : Nat) = i) (hn : i < nL) (hl' : (i, va_rf r) :: L.filter (fun q => !(q.1 == i) && !(q.1 + 1 == i && q.2.category == 2)) = L') (hdg : decode cc pc = .ok (.astore_n k, 1)) (kk : JG p l e R s m args below meth c nL A Q Wp cells slots L' (pc + 1) st) : JG p l e R s m args below meth c nL A Q Wp cells slots L pc (va_rf r :: st) :=
  fun H locs ls hW hS hl => by
    cases r with
    | none => exact lv_astore_nN C.x C.b hdg hi hl hn hl' (fun ls hl => kk H locs ls hW hS hl)
    | some a => exact lv_astore_n C.x C.b hdg hi hl hn hl' (fun ls hl => kk H locs ls hW hS hl)
theorem j_astoreR (C : Cx p s m args meth c cc nL own ret Ts g) {i : Nat} {r : Option Nat} (hn : i < nL) (hl' : (i, va_rf r) :: L.filter (fun q => !(q.1 == i) && !(q.1 + 1 == i && q.2.category == 2)) = L') (hdg : decode cc pc = .ok (.astore i, 2)) (kk : JG p l e R s m args below meth c nL A Q Wp cells slots L' (pc + 2) st) : JG p l e R s m args below meth c nL A Q Wp cells slots L pc (va_rf r :: st) :=
  fun H locs ls hW hS hl => by
    cases r with
    | none => exact lv_astoreN C.x C.b hdg hl hn hl' (fun ls hl => kk H locs ls hW hS hl)
    | some a => exact lv_astore C.x C.b hdg hl hn hl' (fun ls hl => kk H locs ls hW hS hl)
theorem j_iinc (C : Cx p s m args meth c cc nL own ret Ts g) (q : Nat) {i : Nat} {n : Int} {x v : Int32} (hq : L[q]? = some (i, .int x)) (hv : x + Int32.ofInt n = v) (hn : i < nL) (hl' : (i, Value.int v) :: L.filter (fun q => !(q.1 == i) && !(q.1 + 1 == i && q.2.category == 2)) = L') (hdg : decode cc pc = .ok (.iinc i n, 3)) (kk : JG p l e R s m args below meth c nL A Q Wp cells slots L' (pc + 3) st) : JG p l e R s m args below meth c nL A Q Wp cells slots L pc st :=
  fun H locs ls hW hS hl => lv_iinc C.x C.b hdg hl hq hv hn hl' (fun ls hl => kk H locs ls hW hS hl)
theorem j_iadd (C : Cx p s m args meth c cc nL own ret Ts g) {x y : Int32} (hdg : decode cc pc = .ok (.iadd, 1)) (kk : JG p l e R s m args below meth c nL A Q Wp cells slots L (pc + 1) (.int (x + y) :: st)) : JG p l e R s m args below meth c nL A Q Wp cells slots L pc (.int y :: .int x :: st) :=
  fun H locs ls hW hS hl => lv_iadd C.x C.b hdg (kk H locs ls hW hS hl)
theorem j_isub (C : Cx p s m args meth c cc nL own ret Ts g) {x y : Int32} (hdg : decode cc pc = .ok (.isub, 1)) (kk : JG p l e R s m args below meth c nL A Q Wp cells slots L (pc + 1) (.int (x - y) :: st)) : JG p l e R s m args below meth c nL A Q Wp cells slots L pc (.int y :: .int x :: st) :=
  fun H locs ls hW hS hl => lv_isub C.x C.b hdg (kk H locs ls hW hS hl)
theorem j_imul (C : Cx p s m args meth c cc nL own ret Ts g) {x y : Int32} (hdg : decode cc pc = .ok (.imul, 1)) (kk : JG p l e R s m args below meth c nL A Q Wp cells slots L (pc + 1) (.int (x * y) :: st)) : JG p l e R s m args below meth c nL A Q Wp cells slots L pc (.int y :: .int x :: st) :=
  fun H locs ls hW hS hl => lv_imul C.x C.b hdg (kk H locs ls hW hS hl)
theorem j_iand (C : Cx p s m args meth c cc nL own ret Ts g) {x y : Int32} (hdg : decode cc pc = .ok (.iand, 1)) (kk : JG p l e R s m args below meth c nL A Q Wp cells slots L (pc + 1) (.int (x &&& y) :: st)) : JG p l e R s m args below meth c nL A Q Wp cells slots L pc (.int y :: .int x :: st) :=
  fun H locs ls hW hS hl => lv_iand C.x C.b hdg (kk H locs ls hW hS hl)
theorem j_ixor (C : Cx p s m args meth c cc nL own ret Ts g) {x y : Int32} (hdg : decode cc pc = .ok (.ixor, 1)) (kk : JG p l e R s m args below meth c nL A Q Wp cells slots L (pc + 1) (.int (x ^^^ y) :: st)) : JG p l e R s m args below meth c nL A Q Wp cells slots L pc (.int y :: .int x :: st) :=
  fun H locs ls hW hS hl => lv_ixor C.x C.b hdg (kk H locs ls hW hS hl)
theorem j_ladd (C : Cx p s m args meth c cc nL own ret Ts g) {x y : Int64} (hdg : decode cc pc = .ok (.ladd, 1)) (kk : JG p l e R s m args below meth c nL A Q Wp cells slots L (pc + 1) (.long (x + y) :: st)) : JG p l e R s m args below meth c nL A Q Wp cells slots L pc (.long y :: .long x :: st) :=
  fun H locs ls hW hS hl => lv_ladd C.x C.b hdg (kk H locs ls hW hS hl)
theorem j_lsub (C : Cx p s m args meth c cc nL own ret Ts g) {x y : Int64} (hdg : decode cc pc = .ok (.lsub, 1)) (kk : JG p l e R s m args below meth c nL A Q Wp cells slots L (pc + 1) (.long (x - y) :: st)) : JG p l e R s m args below meth c nL A Q Wp cells slots L pc (.long y :: .long x :: st) :=
  fun H locs ls hW hS hl => lv_lsub C.x C.b hdg (kk H locs ls hW hS hl)
theorem j_lmul (C : Cx p s m args meth c cc nL own ret Ts g) {x y : Int64} (hdg : decode cc pc = .ok (.lmul, 1)) (kk : JG p l e R s m args below meth c nL A Q Wp cells slots L (pc + 1) (.long (x * y) :: st)) : JG p l e R s m args below meth c nL A Q Wp cells slots L pc (.long y :: .long x :: st) :=
  fun H locs ls hW hS hl => lv_lmul C.x C.b hdg (kk H locs ls hW hS hl)
theorem j_ineg (C : Cx p s m args meth c cc nL own ret Ts g) {x : Int32} (hdg : decode cc pc = .ok (.ineg, 1)) (kk : JG p l e R s m args below meth c nL A Q Wp cells slots L (pc + 1) (.int (-x) :: st)) : JG p l e R s m args below meth c nL A Q Wp cells slots L pc (.int x :: st) :=
  fun H locs ls hW hS hl => lv_ineg C.x C.b hdg (kk H locs ls hW hS hl)
theorem j_lneg (C : Cx p s m args meth c cc nL own ret Ts g) {x : Int64} (hdg : decode cc pc = .ok (.lneg, 1)) (kk : JG p l e R s m args below meth c nL A Q Wp cells slots L (pc + 1) (.long (-x) :: st)) : JG p l e R s m args below meth c nL A Q Wp cells slots L pc (.long x :: st) :=
  fun H locs ls hW hS hl => lv_lneg C.x C.b hdg (kk H locs ls hW hS hl)
theorem j_i2l (C : Cx p s m args meth c cc nL own ret Ts g) {x : Int32} (hdg : decode cc pc = .ok (.i2l, 1)) (kk : JG p l e R s m args below meth c nL A Q Wp cells slots L (pc + 1) (.long x.toInt64 :: st)) : JG p l e R s m args below meth c nL A Q Wp cells slots L pc (.int x :: st) :=
  fun H locs ls hW hS hl => lv_i2l C.x C.b hdg rfl (kk H locs ls hW hS hl)
theorem j_l2i (C : Cx p s m args meth c cc nL own ret Ts g) {x : Int64} (hdg : decode cc pc = .ok (.l2i, 1)) (kk : JG p l e R s m args below meth c nL A Q Wp cells slots L (pc + 1) (.int x.toInt32 :: st)) : JG p l e R s m args below meth c nL A Q Wp cells slots L pc (.long x :: st) :=
  fun H locs ls hW hS hl => lv_l2i C.x C.b hdg rfl (kk H locs ls hW hS hl)
theorem j_idiv (C : Cx p s m args meth c cc nL own ret Ts g) {x y : Int32} (hne : ¬ y = 0) (hdg : decode cc pc = .ok (.idiv, 1)) (kk : JG p l e R s m args below meth c nL A Q Wp cells slots L (pc + 1) (.int (x / y) :: st)) : JG p l e R s m args below meth c nL A Q Wp cells slots L pc (.int y :: .int x :: st) :=
  fun H locs ls hW hS hl => lv_idiv C.x C.b hdg hne (kk H locs ls hW hS hl)
theorem j_irem (C : Cx p s m args meth c cc nL own ret Ts g) {x y : Int32} (hne : ¬ y = 0) (hdg : decode cc pc = .ok (.irem, 1)) (kk : JG p l e R s m args below meth c nL A Q Wp cells slots L (pc + 1) (.int (x - x / y * y) :: st)) : JG p l e R s m args below meth c nL A Q Wp cells slots L pc (.int y :: .int x :: st) :=
  fun H locs ls hW hS hl => lv_irem C.x C.b hdg hne (kk H locs ls hW hS hl)
theorem j_ldiv (C : Cx p s m args meth c cc nL own ret Ts g) {x y : Int64} (hne : ¬ y = 0) (hdg : decode cc pc = .ok (.ldiv, 1)) (kk : JG p l e R s m args below meth c nL A Q Wp cells slots L (pc + 1) (.long (x / y) :: st)) : JG p l e R s m args below meth c nL A Q Wp cells slots L pc (.long y :: .long x :: st) :=
  fun H locs ls hW hS hl => lv_ldiv C.x C.b hdg hne (kk H locs ls hW hS hl)
theorem j_lrem (C : Cx p s m args meth c cc nL own ret Ts g) {x y : Int64} (hne : ¬ y = 0) (hdg : decode cc pc = .ok (.lrem, 1)) (kk : JG p l e R s m args below meth c nL A Q Wp cells slots L (pc + 1) (.long (x - x / y * y) :: st)) : JG p l e R s m args below meth c nL A Q Wp cells slots L pc (.long y :: .long x :: st) :=
  fun H locs ls hW hS hl => lv_lrem C.x C.b hdg hne (kk H locs ls hW hS hl)
theorem j_ishl (C : Cx p s m args meth c cc nL own ret Ts g) {x y : Int32} (hdg : decode cc pc = .ok (.ishl, 1)) (kk : JG p l e R s m args below meth c nL A Q Wp cells slots L (pc + 1) (.int (x <<< (y &&& 31)) :: st)) : JG p l e R s m args below meth c nL A Q Wp cells slots L pc (.int y :: .int x :: st) :=
  fun H locs ls hW hS hl => lv_ishl C.x C.b hdg (kk H locs ls hW hS hl)
theorem j_ishr (C : Cx p s m args meth c cc nL own ret Ts g) {x y : Int32} (hdg : decode cc pc = .ok (.ishr, 1)) (kk : JG p l e R s m args below meth c nL A Q Wp cells slots L (pc + 1) (.int (x >>> (y &&& 31)) :: st)) : JG p l e R s m args below meth c nL A Q Wp cells slots L pc (.int y :: .int x :: st) :=
  fun H locs ls hW hS hl => lv_ishr C.x C.b hdg (kk H locs ls hW hS hl)
theorem j_ior (C : Cx p s m args meth c cc nL own ret Ts g) {x y : Int32} (hdg : decode cc pc = .ok (.ior, 1)) (kk : JG p l e R s m args below meth c nL A Q Wp cells slots L (pc + 1) (.int (x ||| y) :: st)) : JG p l e R s m args below meth c nL A Q Wp cells slots L pc (.int y :: .int x :: st) :=
  fun H locs ls hW hS hl => lv_ior C.x C.b hdg (kk H locs ls hW hS hl)
theorem j_iushr (C : Cx p s m args meth c cc nL own ret Ts g) {x y : Int32} (hdg : decode cc pc = .ok (.iushr, 1)) (kk : JG p l e R s m args below meth c nL A Q Wp cells slots L (pc + 1) (.int (x.toUInt32 >>> (y.toUInt32 &&& Int32.toUInt32 31)).toInt32 :: st)) : JG p l e R s m args below meth c nL A Q Wp cells slots L pc (.int y :: .int x :: st) :=
  fun H locs ls hW hS hl => lv_iushr C.x C.b hdg rfl (kk H locs ls hW hS hl)
theorem j_dup (C : Cx p s m args meth c cc nL own ret Ts g) {va : Value} (hva : va.category = 1) (hdg : decode cc pc = .ok (.dup, 1)) (kk : JG p l e R s m args below meth c nL A Q Wp cells slots L (pc + 1) (va :: va :: st)) : JG p l e R s m args below meth c nL A Q Wp cells slots L pc (va :: st) :=
  fun H locs ls hW hS hl => lv_dup C.x C.b hdg hva (kk H locs ls hW hS hl)
theorem j_pop (C : Cx p s m args meth c cc nL own ret Ts g) {va : Value} (hva : va.category = 1) (hdg : decode cc pc = .ok (.pop, 1)) (kk : JG p l e R s m args below meth c nL A Q Wp cells slots L (pc + 1) st) : JG p l e R s m args below meth c nL A Q Wp cells slots L pc (va :: st) :=
  fun H locs ls hW hS hl => lv_pop C.x C.b hdg hva (kk H locs ls hW hS hl)
theorem j_dup_x1 (C : Cx p s m args meth c cc nL own ret Ts g) {va vb : Value} (hva : va.category = 1) (hvb : vb.category = 1) (hdg : decode cc pc = .ok (.dup_x1, 1)) (kk : JG p l e R s m args below meth c nL A Q Wp cells slots L (pc + 1) (va :: vb :: va :: st)) : JG p l e R s m args below meth c nL A Q Wp cells slots L pc (va :: vb :: st) :=
  fun H locs ls hW hS hl => lv_dup_x1 C.x C.b hdg hva hvb (kk H locs ls hW hS hl)
theorem j_dup_x2 (C : Cx p s m args meth c cc nL own ret Ts g) {va vb vd : Value} (hva : va.category = 1) (hvb : vb.category = 1) (hvd : vd.category = 1) (hdg : decode cc pc = .ok (.dup_x2, 1)) (kk : JG p l e R s m args below meth c nL A Q Wp cells slots L (pc + 1) (va :: vb :: vd :: va :: st)) : JG p l e R s m args below meth c nL A Q Wp cells slots L pc (va :: vb :: vd :: st) :=
  fun H locs ls hW hS hl => lv_dup_x2 C.x C.b hdg hva hvb hvd (kk H locs ls hW hS hl)
theorem j_dup2 (C : Cx p s m args meth c cc nL own ret Ts g) {va vb : Value} (hva : va.category = 1) (hvb : vb.category = 1) (hdg : decode cc pc = .ok (.dup2, 1)) (kk : JG p l e R s m args below meth c nL A Q Wp cells slots L (pc + 1) (va :: vb :: va :: vb :: st)) : JG p l e R s m args below meth c nL A Q Wp cells slots L pc (va :: vb :: st) :=
  fun H locs ls hW hS hl => lv_dup2_11 C.x C.b hdg hva hvb (kk H locs ls hW hS hl)
theorem j_dup2L (C : Cx p s m args meth c cc nL own ret Ts g) {va : Value} (hva : va.category = 2) (hdg : decode cc pc = .ok (.dup2, 1)) (kk : JG p l e R s m args below meth c nL A Q Wp cells slots L (pc + 1) (va :: va :: st)) : JG p l e R s m args below meth c nL A Q Wp cells slots L pc (va :: st) :=
  fun H locs ls hW hS hl => lv_dup2_2 C.x C.b hdg hva (kk H locs ls hW hS hl)
theorem j_null (C : Cx p s m args meth c cc nL own ret Ts g) (hdg : decode cc pc = .ok (.aconst_null, 1)) (kk : JG p l e R s m args below meth c nL A Q Wp cells slots L (pc + 1) (.null :: st)) : JG p l e R s m args below meth c nL A Q Wp cells slots L pc st :=
  fun H locs ls hW hS hl => lv_null C.x C.b hdg (kk H locs ls hW hS hl)
theorem j_if_eq (C : Cx p s m args meth c cc nL own ret Ts g) {x : Int32} {off : Int} {tgt : Nat} (ht : (pc : Int) + off = (tgt : Int)) (hdg : decode cc pc = .ok (.ifCond .eq off, 3)) (kt : x = 0 → JG p l e R s m args below meth c nL A Q Wp cells slots L tgt st) (kf : ¬ x = 0 → JG p l e R s m args below meth c nL A Q Wp cells slots L (pc + 3) st) : JG p l e R s m args below meth c nL A Q Wp cells slots L pc (.int x :: st) :=
  fun H locs ls hW hS hl => lv_if_eq C.x C.b hdg ht (fun h => kt h H locs ls hW hS hl) (fun h => kf h H locs ls hW hS hl)
theorem j_icmp_eq (C : Cx p s m args meth c cc nL own ret Ts g) {x y : Int32} {off : Int} {tgt : Nat} (ht : (pc : Int) + off = (tgt : Int)) (hdg : decode cc pc = .ok (.if_icmp .eq off, 3)) (kt : x = y → JG p l e R s m args below meth c nL A Q Wp cells slots L tgt st) (kf : ¬ x = y → JG p l e R s m args below meth c nL A Q Wp cells slots L (pc + 3) st) : JG p l e R s m args below meth c nL A Q Wp cells slots L pc (.int y :: .int x :: st) :=
  fun H locs ls hW hS hl => lv_icmp_eq C.x C.b hdg ht (fun h => kt h H locs ls hW hS hl) (fun h => kf h H locs ls hW hS hl)
theorem j_if_ne (C : Cx p s m args meth c cc nL own ret Ts g) {x : Int32} {off : Int} {tgt : Nat} (ht : (pc : Int) + off = (tgt : Int)) (hdg : decode cc pc = .ok (.ifCond .ne off, 3)) (kt : ¬ x = 0 → JG p l e R s m args below meth c nL A Q Wp cells slots L tgt st) (kf : x = 0 → JG p l e R s m args below meth c nL A Q Wp cells slots L (pc + 3) st) : JG p l e R s m args below meth c nL A Q Wp cells slots L pc (.int x :: st) :=
  fun H locs ls hW hS hl => lv_if_ne C.x C.b hdg ht (fun h => kt h H locs ls hW hS hl) (fun h => kf h H locs ls hW hS hl)
theorem j_icmp_ne (C : Cx p s m args meth c cc nL own ret Ts g) {x y : Int32} {off : Int} {tgt : Nat} (ht : (pc : Int) + off = (tgt : Int)) (hdg : decode cc pc = .ok (.if_icmp .ne off, 3)) (kt : ¬ x = y → JG p l e R s m args below meth c nL A Q Wp cells slots L tgt st) (kf : x = y → JG p l e R s m args below meth c nL A Q Wp cells slots L (pc + 3) st) : JG p l e R s m args below meth c nL A Q Wp cells slots L pc (.int y :: .int x :: st) :=
  fun H locs ls hW hS hl => lv_icmp_ne C.x C.b hdg ht (fun h => kt h H locs ls hW hS hl) (fun h => kf h H locs ls hW hS hl)
theorem j_if_lt (C : Cx p s m args meth c cc nL own ret Ts g) {x : Int32} {off : Int} {tgt : Nat} (ht : (pc : Int) + off = (tgt : Int)) (hdg : decode cc pc = .ok (.ifCond .lt off, 3)) (kt : x < 0 → JG p l e R s m args below meth c nL A Q Wp cells slots L tgt st) (kf : ¬ x < 0 → JG p l e R s m args below meth c nL A Q Wp cells slots L (pc + 3) st) : JG p l e R s m args below meth c nL A Q Wp cells slots L pc (.int x :: st) :=
  fun H locs ls hW hS hl => lv_if_lt C.x C.b hdg ht (fun h => kt h H locs ls hW hS hl) (fun h => kf h H locs ls hW hS hl)
theorem j_icmp_lt (C : Cx p s m args meth c cc nL own ret Ts g) {x y : Int32} {off : Int} {tgt : Nat} (ht : (pc : Int) + off = (tgt : Int)) (hdg : decode cc pc = .ok (.if_icmp .lt off, 3)) (kt : x < y → JG p l e R s m args below meth c nL A Q Wp cells slots L tgt st) (kf : ¬ x < y → JG p l e R s m args below meth c nL A Q Wp cells slots L (pc + 3) st) : JG p l e R s m args below meth c nL A Q Wp cells slots L pc (.int y :: .int x :: st) :=
  fun H locs ls hW hS hl => lv_icmp_lt C.x C.b hdg ht (fun h => kt h H locs ls hW hS hl) (fun h => kf h H locs ls hW hS hl)
theorem j_if_ge (C : Cx p s m args meth c cc nL own ret Ts g) {x : Int32} {off : Int} {tgt : Nat} (ht : (pc : Int) + off = (tgt : Int)) (hdg : decode cc pc = .ok (.ifCond .ge off, 3)) (kt : 0 ≤ x → JG p l e R s m args below meth c nL A Q Wp cells slots L tgt st) (kf : ¬ 0 ≤ x → JG p l e R s m args below meth c nL A Q Wp cells slots L (pc + 3) st) : JG p l e R s m args below meth c nL A Q Wp cells slots L pc (.int x :: st) :=
  fun H locs ls hW hS hl => lv_if_ge C.x C.b hdg ht (fun h => kt h H locs ls hW hS hl) (fun h => kf h H locs ls hW hS hl)
theorem j_icmp_ge (C : Cx p s m args meth c cc nL own ret Ts g) {x y : Int32} {off : Int} {tgt : Nat} (ht : (pc : Int) + off = (tgt : Int)) (hdg : decode cc pc = .ok (.if_icmp .ge off, 3)) (kt : y ≤ x → JG p l e R s m args below meth c nL A Q Wp cells slots L tgt st) (kf : ¬ y ≤ x → JG p l e R s m args below meth c nL A Q Wp cells slots L (pc + 3) st) : JG p l e R s m args below meth c nL A Q Wp cells slots L pc (.int y :: .int x :: st) :=
  fun H locs ls hW hS hl => lv_icmp_ge C.x C.b hdg ht (fun h => kt h H locs ls hW hS hl) (fun h => kf h H locs ls hW hS hl)
theorem j_if_gt (C : Cx p s m args meth c cc nL own ret Ts g) {x : Int32} {off : Int} {tgt : Nat} (ht : (pc : Int) + off = (tgt : Int)) (hdg : decode cc pc = .ok (.ifCond .gt off, 3)) (kt : 0 < x → JG p l e R s m args below meth c nL A Q Wp cells slots L tgt st) (kf : ¬ 0 < x → JG p l e R s m args below meth c nL A Q Wp cells slots L (pc + 3) st) : JG p l e R s m args below meth c nL A Q Wp cells slots L pc (.int x :: st) :=
  fun H locs ls hW hS hl => lv_if_gt C.x C.b hdg ht (fun h => kt h H locs ls hW hS hl) (fun h => kf h H locs ls hW hS hl)
theorem j_icmp_gt (C : Cx p s m args meth c cc nL own ret Ts g) {x y : Int32} {off : Int} {tgt : Nat} (ht : (pc : Int) + off = (tgt : Int)) (hdg : decode cc pc = .ok (.if_icmp .gt off, 3)) (kt : y < x → JG p l e R s m args below meth c nL A Q Wp cells slots L tgt st) (kf : ¬ y < x → JG p l e R s m args below meth c nL A Q Wp cells slots L (pc + 3) st) : JG p l e R s m args below meth c nL A Q Wp cells slots L pc (.int y :: .int x :: st) :=
  fun H locs ls hW hS hl => lv_icmp_gt C.x C.b hdg ht (fun h => kt h H locs ls hW hS hl) (fun h => kf h H locs ls hW hS hl)
theorem j_if_le (C : Cx p s m args meth c cc nL own ret Ts g) {x : Int32} {off : Int} {tgt : Nat} (ht : (pc : Int) + off = (tgt : Int)) (hdg : decode cc pc = .ok (.ifCond .le off, 3)) (kt : x ≤ 0 → JG p l e R s m args below meth c nL A Q Wp cells slots L tgt st) (kf : ¬ x ≤ 0 → JG p l e R s m args below meth c nL A Q Wp cells slots L (pc + 3) st) : JG p l e R s m args below meth c nL A Q Wp cells slots L pc (.int x :: st) :=
  fun H locs ls hW hS hl => lv_if_le C.x C.b hdg ht (fun h => kt h H locs ls hW hS hl) (fun h => kf h H locs ls hW hS hl)
theorem j_icmp_le (C : Cx p s m args meth c cc nL own ret Ts g) {x y : Int32} {off : Int} {tgt : Nat} (ht : (pc : Int) + off = (tgt : Int)) (hdg : decode cc pc = .ok (.if_icmp .le off, 3)) (kt : x ≤ y → JG p l e R s m args below meth c nL A Q Wp cells slots L tgt st) (kf : ¬ x ≤ y → JG p l e R s m args below meth c nL A Q Wp cells slots L (pc + 3) st) : JG p l e R s m args below meth c nL A Q Wp cells slots L pc (.int y :: .int x :: st) :=
  fun H locs ls hW hS hl => lv_icmp_le C.x C.b hdg ht (fun h => kt h H locs ls hW hS hl) (fun h => kf h H locs ls hW hS hl)
theorem j_goto (C : Cx p s m args meth c cc nL own ret Ts g) {off : Int} {tgt : Nat} (ht : (pc : Int) + off = (tgt : Int)) (hdg : decode cc pc = .ok (.goto off, 3)) (kk : JG p l e R s m args below meth c nL A Q Wp cells slots L tgt st) : JG p l e R s m args below meth c nL A Q Wp cells slots L pc st :=
  fun H locs ls hW hS hl => lv_goto C.x C.b hdg ht (kk H locs ls hW hS hl)
theorem j_tableOut (C : Cx p s m args meth c cc nL own ret Ts g) {dflt lo hi : Int} {offs : Array Int} {len : Nat} {x : Int32} {tgt : Nat} (h : x.toInt < lo ∨ hi < x.toInt) (ht : (pc : Int) + dflt = (tgt : Int)) (hdg : decode cc pc = .ok (.tableswitch dflt lo hi offs, len)) (kk : JG p l e R s m args below meth c nL A Q Wp cells slots L tgt st) : JG p l e R s m args below meth c nL A Q Wp cells slots L pc (.int x :: st) :=
  fun H locs ls hW hS hl => lv_tableOut C.x C.b hdg h ht (kk H locs ls hW hS hl)
theorem j_tableIn (C : Cx p s m args meth c cc nL own ret Ts g) {dflt lo hi : Int} {offs : Array Int} {len : Nat} {x : Int32} {off : Int} {tgt : Nat} (h1 : ¬ x.toInt < lo) (h2 : ¬ hi < x.toInt) (ho : offs[(x.toInt - lo).toNat]? = some off) (ht : (pc : Int) + off = (tgt : Int)) (hdg : decode cc pc = .ok (.tableswitch dflt lo hi offs, len)) (kk : JG p l e R s m args below meth c nL A Q Wp cells slots L tgt st) : JG p l e R s m args below meth c nL A Q Wp cells slots L pc (.int x :: st) :=
  fun H locs ls hW hS hl => lv_tableIn C.x C.b hdg h1 h2 ho ht (kk H locs ls hW hS hl)
theorem j_lcmp_eq (C : Cx p s m args meth c cc nL own ret Ts g) {x y : Int64} {off : Int} {tgt : Nat} (hd2 : decode cc (pc + 1) = .ok (.ifCond .eq off, 3)) (ht : ((pc + 1 : Nat) : Int) + off = (tgt : Int)) (hdg : decode cc pc = .ok (.lcmp, 1)) (kt : x = y → JG p l e R s m args below meth c nL A Q Wp cells slots L tgt st) (kf : ¬ x = y → JG p l e R s m args below meth c nL A Q Wp cells slots L (pc + 4) st) : JG p l e R s m args below meth c nL A Q Wp cells slots L pc (.long y :: .long x :: st) :=
  fun H locs ls hW hS hl => W.lcmp C.x C.b hdg (lv_if_eq C.x C.b hd2 ht (fun h => kt ((lc_eq x y).mp h) H locs ls hW hS hl) (fun h => kf (fun h2 => (by first | exact h ((lc_eq x y).mpr h2) | exact absurd h ((lc_eq x y).mpr h2))) H locs ls hW hS hl))
theorem j_lcmp_ne (C : Cx p s m args meth c cc nL own ret Ts g) {x y : Int64} {off : Int} {tgt : Nat} (hd2 : decode cc (pc + 1) = .ok (.ifCond .ne off, 3)) (ht : ((pc + 1 : Nat) : Int) + off = (tgt : Int)) (hdg : decode cc pc = .ok (.lcmp, 1)) (kt : ¬ x = y → JG p l e R s m args below meth c nL A Q Wp cells slots L tgt st) (kf : x = y → JG p l e R s m args below meth c nL A Q Wp cells slots L (pc + 4) st) : JG p l e R s m args below meth c nL A Q Wp cells slots L pc (.long y :: .long x :: st) :=
  fun H locs ls hW hS hl => W.lcmp C.x C.b hdg (lv_if_ne C.x C.b hd2 ht (fun h => kt (fun h2 => h ((lc_eq x y).mpr h2)) H locs ls hW hS hl) (fun h => kf ((lc_eq x y).mp h) H locs ls hW hS hl))
theorem j_lcmp_lt (C : Cx p s m args meth c cc nL own ret Ts g) {x y : Int64} {off : Int} {tgt : Nat} (hd2 : decode cc (pc + 1) = .ok (.ifCond .lt off, 3)) (ht : ((pc + 1 : Nat) : Int) + off = (tgt : Int)) (hdg : decode cc pc = .ok (.lcmp, 1)) (kt : x < y → JG p l e R s m args below meth c nL A Q Wp cells slots L tgt st) (kf : ¬ x < y → JG p l e R s m args below meth c nL A Q Wp cells slots L (pc + 4) st) : JG p l e R s m args below meth c nL A Q Wp cells slots L pc (.long y :: .long x :: st) :=
  fun H locs ls hW hS hl => W.lcmp C.x C.b hdg (lv_if_lt C.x C.b hd2 ht (fun h => kt ((lc_lt x y).mp h) H locs ls hW hS hl) (fun h => kf (fun h2 => (by first | exact h ((lc_lt x y).mpr h2) | exact absurd h ((lc_lt x y).mpr h2))) H locs ls hW hS hl))
theorem j_lcmp_ge (C : Cx p s m args meth c cc nL own ret Ts g) {x y : Int64} {off : Int} {tgt : Nat} (hd2 : decode cc (pc + 1) = .ok (.ifCond .ge off, 3)) (ht : ((pc + 1 : Nat) : Int) + off = (tgt : Int)) (hdg : decode cc pc = .ok (.lcmp, 1)) (kt : y ≤ x → JG p l e R s m args below meth c nL A Q Wp cells slots L tgt st) (kf : ¬ y ≤ x → JG p l e R s m args below meth c nL A Q Wp cells slots L (pc + 4) st) : JG p l e R s m args below meth c nL A Q Wp cells slots L pc (.long y :: .long x :: st) :=
  fun H locs ls hW hS hl => W.lcmp C.x C.b hdg (lv_if_ge C.x C.b hd2 ht (fun h => kt ((lc_ge x y).mp h) H locs ls hW hS hl) (fun h => kf (fun h2 => (by first | exact h ((lc_ge x y).mpr h2) | exact absurd h ((lc_ge x y).mpr h2))) H locs ls hW hS hl))
theorem j_lcmp_gt (C : Cx p s m args meth c cc nL own ret Ts g) {x y : Int64} {off : Int} {tgt : Nat} (hd2 : decode cc (pc + 1) = .ok (.ifCond .gt off, 3)) (ht : ((pc + 1 : Nat) : Int) + off = (tgt : Int)) (hdg : decode cc pc = .ok (.lcmp, 1)) (kt : y < x → JG p l e R s m args below meth c nL A Q Wp cells slots L tgt st) (kf : ¬ y < x → JG p l e R s m args below meth c nL A Q Wp cells slots L (pc + 4) st) : JG p l e R s m args below meth c nL A Q Wp cells slots L pc (.long y :: .long x :: st) :=
  fun H locs ls hW hS hl => W.lcmp C.x C.b hdg (lv_if_gt C.x C.b hd2 ht (fun h => kt ((lc_gt x y).mp h) H locs ls hW hS hl) (fun h => kf (fun h2 => (by first | exact h ((lc_gt x y).mpr h2) | exact absurd h ((lc_gt x y).mpr h2))) H locs ls hW hS hl))
theorem j_lcmp_le (C : Cx p s m args meth c cc nL own ret Ts g) {x y : Int64} {off : Int} {tgt : Nat} (hd2 : decode cc (pc + 1) = .ok (.ifCond .le off, 3)) (ht : ((pc + 1 : Nat) : Int) + off = (tgt : Int)) (hdg : decode cc pc = .ok (.lcmp, 1)) (kt : x ≤ y → JG p l e R s m args below meth c nL A Q Wp cells slots L tgt st) (kf : ¬ x ≤ y → JG p l e R s m args below meth c nL A Q Wp cells slots L (pc + 4) st) : JG p l e R s m args below meth c nL A Q Wp cells slots L pc (.long y :: .long x :: st) :=
  fun H locs ls hW hS hl => W.lcmp C.x C.b hdg (lv_if_le C.x C.b hd2 ht (fun h => kt ((lc_le x y).mp h) H locs ls hW hS hl) (fun h => kf (fun h2 => (by first | exact h ((lc_le x y).mpr h2) | exact absurd h ((lc_le x y).mpr h2))) H locs ls hW hS hl))
end RBA
section RBB
variable {p : Program} {l : Launch} {e : Env} {R : Room} {s : State} {m : MethodId} {args : Array Value} {below : List Frame} {meth : Method} {c : Code} {Q : State → Prop}
variable {cc : ByteArray} {nL : Nat} {own : String} {ret : Option FieldType} {Ts : List Cond} {g : Gc} {ad : Nat → Nat → Nat} {χ χ' : Mem} {T T' : Nat → Mem} {σ σ' : Mem} {cells slots : Nat} {L L' : List (Nat × Value)} {pc : Nat} {st : List Value}
theorem CW.rv (hK : CK g s) {H : Heap} (h : CW g ad χ T σ H) {k i ci : Nat} {fs : List Value} {q : vw_C} (hk : k ≠ 17) (he : ∀ η, cw g ad χ T σ η k i = some (.inr (ci, fs))) (hc : vwCl[ci]? = some q) : ∃ cell : Cell, H[ad k i]? = some cell ∧ cell.vm.isStatics = false ∧ s.vm.findClass q.1 = some cell.cls := by
  have hP : va_P g.1 vwCl [(ad k i, .inr (ci, fs))] H := fun j x hx => by
    match j, hx with
    | 0, hx => cases hx; exact (h.at hk he).1
    | j + 1, hx => simp at hx
  exact va_recv (ws := [(ad k i, .inr (ci, fs))]) hK.1 hP hc (q0 := 0) rfl
/-- getfield -/
theorem j_getG (C : Cx p s m args meth c cc nL own ret Ts g) {ref Cn : String} {TT : u_T} {N ci index k i : Nat} {fs : List Value} (hin : ∀ w ∈ u_ws Cn TT N, w ∈ Ts) (hk : k ≠ 17) (he : ∀ η, cw g ad χ T σ η k i = some (.inr (ci, fs))) (hc : vwCl[ci]? = some (Cn, TT, N)) (q : Nat) (hq : q < N)
    (hlink : Cond.fieldLink own index ref (TT q).2.1 (TT q).2.2.1 ∈ Ts) (hsame : ∀ x, s.fieldFound? (TT q).1 (TT q).2.1 (TT q).2.2.1 = some x → s.fieldFound? ref (TT q).2.1 (TT q).2.2.1 = some x) {v : Value} (hv : fs[q]? = some v) (hdg : decode cc pc = .ok (.getfield index, 3))
    (kk : JJ p l e R s m args below meth c nL g ad Q χ T σ cells slots L (pc + 3) (v :: st)) : JJ p l e R s m args below meth c nL g ad Q χ T σ cells slots L pc (.ref (ad k i) :: st) := by
  intro H locs ls hW hS hl
  have hP : va_P g.1 vwCl [(ad k i, .inr (ci, fs))] H := fun j x hx => by
    match j, hx with
    | 0, hx => cases hx; exact (hW.at hk he).1
    | j + 1, hx => simp at hx
  exact va_get (ws := [(ad k i, .inr (ci, fs))]) C.x C.b C.ts hin C.ow C.k.1 hP 0 rfl hc q hq (C.ts _ hlink) hsame hv hdg (kk H locs ls hW hS hl)
/-- putfield -/
theorem j_putG (C : Cx p s m args meth c cc nL own ret Ts g) {ref Cn : String} {TT : u_T} {N ci index k i : Nat} {fs : List Value} (hin : ∀ w ∈ u_ws Cn TT N, w ∈ Ts) (ty0 : Nat → FieldType) (hty : ∀ k, k < N → parseFieldDescriptor (TT k).2.2.1 = some (ty0 k)) (hnm : ∀ a, a < N → ∀ b, b < N → a ≠ b → (TT a).2.1 ≠ (TT b).2.1) (hc : vwCl[ci]? = some (Cn, TT, N)) (q : Nat) (hq : q < N) {ty : FieldType} {v : Value}
    (hk : k ≠ 17) (he : ∀ η, cw g ad χ T σ η k i = some (.inr (ci, fs))) (he' : ∀ η, cw g ad χ' T' σ' η k i = some (.inr (ci, fs.set q v))) (ho : ∀ η k' i', ¬ (k' = k ∧ i' = i) → cw g ad χ' T' σ' η k' i' = cw g ad χ T σ η k' i') (hlo : ∀ η, LOK ad χ η → LOK ad χ' η) (hwt : WT χ → WT χ')
    (hlink : Cond.fieldLink own index ref (TT q).2.1 (TT q).2.2.1 ∈ Ts) (hsame : ∀ x, s.fieldFound? (TT q).1 (TT q).2.1 (TT q).2.2.1 = some x → s.fieldFound? ref (TT q).2.1 (TT q).2.2.1 = some x) (hfin : (TT q).2.2.2 = false) (hd : parseFieldDescriptor (TT q).2.2.1 = some ty) (hn : narrow ty v = v) (hfit : fits ty v = true) (hlf : q < fs.length) (hdg : decode cc pc = .ok (.putfield index, 3))
    (kk : JJ p l e R s m args below meth c nL g ad Q χ' T' σ' cells slots L (pc + 3) st) : JJ p l e R s m args below meth c nL g ad Q χ T σ cells slots L pc (v :: .ref (ad k i) :: st) := by
  intro H locs ls hW hS hl
  obtain ⟨hat, hge⟩ := hW.at hk he
  have hap := va_apart (own := own) C.ts hin ty0 hty hnm C.k.1 hc
  obtain ⟨r, h1, cell, q1, q2, q3, q4⟩ := hat
  have hr : r = (Cn, TT, N) := Option.some.inj (h1.symm.trans hc)
  subst hr
  obtain ⟨hSl, hfc, kC, hkC, hkind⟩ := C.k.1.1 ci _ hc
  obtain ⟨cf, kf, fi, f, hi, hsl⟩ := hSl q hq
  have hlay := C.ts _ (hin _ (u_in_lay hq))
  unfold u_lay at hlay
  rw [if_neg (by rw [hfin]; decide)] at hlay
  have hst := (u_facts hfc hkC (u_lays C.ts hin hq) hi).1
  have h6 := u_store hfc hkC hkind hlay hi hd hn hfit
  refine W.putK C.x C.b (f := f) ⟨C.ow, C.ts _ hlink, ⟨_, _, _, hsame _ hi⟩, hst⟩ (by rw [q2]; exact h6) q1 q3 (by rw [hsl]; exact k2_hasslot (q4 q hq)) rfl rfl hdg fun H' e1 e2 e3 => ?_
  rw [hsl] at e1 ⊢
  refine kk H' _ ls (hW.put hk he he' ho hlo hwt ?_ e2 e3) (hS.put e2 e3 hge) hl
  exact ⟨_, hc, t_OB.to (V := updV (vp_V fs) q v) ⟨_, e1, q2, q3, t_set q4 hap hq v⟩ (fun j _ => vp_updV_set hlf v j)⟩
/-- putfield of a final field, in the constructor -/
theorem j_putF (C : Cx p s m args meth c cc nL own ret Ts g) {ref Cn : String} {TT : u_T} {N ci index k i : Nat} {fs : List Value} (hin : ∀ w ∈ u_ws Cn TT N, w ∈ Ts) (ty0 : Nat → FieldType) (hty : ∀ k, k < N → parseFieldDescriptor (TT k).2.2.1 = some (ty0 k)) (hnm : ∀ a, a < N → ∀ b, b < N → a ≠ b → (TT a).2.1 ≠ (TT b).2.1) (hc : vwCl[ci]? = some (Cn, TT, N)) (q : Nat) (hq : q < N) {ty : FieldType} {v : Value} (hin2 : meth.name = "<init>") (hdecl : (TT q).1 = own)
    (hk : k ≠ 17) (he : ∀ η, cw g ad χ T σ η k i = some (.inr (ci, fs))) (he' : ∀ η, cw g ad χ' T' σ' η k i = some (.inr (ci, fs.set q v))) (ho : ∀ η k' i', ¬ (k' = k ∧ i' = i) → cw g ad χ' T' σ' η k' i' = cw g ad χ T σ η k' i') (hlo : ∀ η, LOK ad χ η → LOK ad χ' η) (hwt : WT χ → WT χ')
    (hlink : Cond.fieldLink own index ref (TT q).2.1 (TT q).2.2.1 ∈ Ts) (hsame : ∀ x, s.fieldFound? (TT q).1 (TT q).2.1 (TT q).2.2.1 = some x → s.fieldFound? ref (TT q).2.1 (TT q).2.2.1 = some x) (hfin : (TT q).2.2.2 = true) (hd : parseFieldDescriptor (TT q).2.2.1 = some ty) (hn : narrow ty v = v) (hfit : fits ty v = true) (hlf : q < fs.length) (hdg : decode cc pc = .ok (.putfield index, 3))
    (kk : JJ p l e R s m args below meth c nL g ad Q χ' T' σ' cells slots L (pc + 3) st) : JJ p l e R s m args below meth c nL g ad Q χ T σ cells slots L pc (v :: .ref (ad k i) :: st) := by
  intro H locs ls hW hS hl
  obtain ⟨hat, hge⟩ := hW.at hk he
  have hap := va_apart (own := own) C.ts hin ty0 hty hnm C.k.1 hc
  obtain ⟨r, h1, cell, q1, q2, q3, q4⟩ := hat
  have hr : r = (Cn, TT, N) := Option.some.inj (h1.symm.trans hc)
  subst hr
  obtain ⟨hSl, hfc, kC, hkC, hkind⟩ := C.k.1.1 ci _ hc
  obtain ⟨cf, kf, fi, f, hi, hsl⟩ := hSl q hq
  have hlay := C.ts _ (hin _ (u_in_lay hq))
  unfold u_lay at hlay
  rw [if_pos hfin] at hlay
  have hst := (u_facts hfc hkC (u_lays C.ts hin hq) hi).1
  have hcf : m.cls = cf := by
    obtain ⟨_, _, c', _, _, _, -, -, hf', -, -, -, hown2, -⟩ := Cond.laysFinal_spec hlay
    have e1 : c' = cf := by have := hi.symm.trans hf'; simp at this; exact this.1.symm
    rw [hdecl] at hown2
    rw [← e1]; exact Option.some.inj (C.ow.symm.trans hown2)
  have h6 := u_fits hfc hkC hkind (Or.inr hlay) hi hd hn hfit
  refine W.putFinK C.x C.b C.ow (C.ts _ hlink) (hsame _ hi) hst hcf hin2 (by rw [q2]; exact h6) q1 q3 (by rw [hsl]; exact k2_hasslot (q4 q hq)) rfl rfl hdg fun H' e1 e2 e3 => ?_
  rw [hsl] at e1 ⊢
  refine kk H' _ ls (hW.put hk he he' ho hlo hwt ?_ e2 e3) (hS.put e2 e3 hge) hl
  exact ⟨_, hc, t_OB.to (V := updV (vp_V fs) q v) ⟨_, e1, q2, q3, t_set q4 hap hq v⟩ (fun j _ => vp_updV_set hlf v j)⟩
/-- an index of a row of n places -/
def inB (i : Int32) (n : Nat) : Bool := decide (0 ≤ i.toInt) && decide (i.toInt < n)
theorem inB_in {i : Int32} {n : Nat} (h : inB i n = true) : vp_in i n := by
  unfold inB at h
  rw [Bool.and_eq_true, decide_eq_true_iff, decide_eq_true_iff] at h
  exact vp_in_iff.mpr h
theorem j_iald (C : Cx p s m args meth c cc nL own ret Ts g) {k i n : Nat} {f : Nat → Int32} {x : Int32} (hk : k ≠ 17) (he : ∀ η, cw g ad χ T σ η k i = some (aI g n f)) (hin : inB x n = true) (hdg : decode cc pc = .ok (.iaload, 1))
    (kk : JJ p l e R s m args below meth c nL g ad Q χ T σ cells slots L (pc + 1) (.int (f x.toNatClampNeg) :: st)) : JJ p l e R s m args below meth c nL g ad Q χ T σ cells slots L pc (.int x :: .ref (ad k i) :: st) := by
  intro H locs ls hW hS hl
  have hP : va_P g.1 vwCl [(ad k i, aI g n f)] H := fun j y hy => by
    match j, hy with
    | 0, hy => cases hy; exact (hW.at hk he).1
    | j + 1, hy => simp at hy
  exact va_iald (ws := [(ad k i, aI g n f)]) C.x C.b C.k.1 hP 0 0 rfl rfl (inB_in hin) hdg (kk H locs ls hW hS hl)
theorem j_zald (C : Cx p s m args meth c cc nL own ret Ts g) {k i n : Nat} {f : Nat → Int32} {x : Int32} (hk : k ≠ 17) (he : ∀ η, cw g ad χ T σ η k i = some (aZ g n f)) (hin : inB x n = true) (hdg : decode cc pc = .ok (.baload, 1))
    (kk : JJ p l e R s m args below meth c nL g ad Q χ T σ cells slots L (pc + 1) (.int (f x.toNatClampNeg) :: st)) : JJ p l e R s m args below meth c nL g ad Q χ T σ cells slots L pc (.int x :: .ref (ad k i) :: st) := by
  intro H locs ls hW hS hl
  have hP : va_P g.1 vwCl [(ad k i, aZ g n f)] H := fun j y hy => by
    match j, hy with
    | 0, hy => cases hy; exact (hW.at hk he).1
    | j + 1, hy => simp at hy
  exact va_zald (ws := [(ad k i, aZ g n f)]) C.x C.b C.k.1 hP 0 2 rfl rfl (inB_in hin) hdg (kk H locs ls hW hS hl)
theorem j_lald (C : Cx p s m args meth c cc nL own ret Ts g) {k i n : Nat} {f : Nat → Int64} {x : Int32} (hk : k ≠ 17) (he : ∀ η, cw g ad χ T σ η k i = some (aL g n f)) (hin : inB x n = true) (hdg : decode cc pc = .ok (.laload, 1))
    (kk : JJ p l e R s m args below meth c nL g ad Q χ T σ cells slots L (pc + 1) (.long (f x.toNatClampNeg) :: st)) : JJ p l e R s m args below meth c nL g ad Q χ T σ cells slots L pc (.int x :: .ref (ad k i) :: st) := by
  intro H locs ls hW hS hl
  have hP : va_P g.1 vwCl [(ad k i, aL g n f)] H := fun j y hy => by
    match j, hy with
    | 0, hy => cases hy; exact (hW.at hk he).1
    | j + 1, hy => simp at hy
  exact va_lald (ws := [(ad k i, aL g n f)]) C.x C.b C.k.1 hP 0 1 rfl rfl (inB_in hin) hdg (kk H locs ls hW hS hl)
theorem W.aaldR {cc : ByteArray} {H : Heap} {locs : List Loc} {ls : Array Slot} {rest : List Value} (hexec : p.tables.exec = Jvm.exec) (hb : c.code = cc) {D : va_G} {cl : List vw_C} {tys : List (ClassId × FieldType)} (hK : va_K D cl tys s) {a t0 : Nat} {cA : ClassId} {ty : FieldType} (href : ty.isReference = true) {n : Nat} {f : Nat → Option Nat} (ha : H[a]? = some (vp_cell cA (n, .inr (.inr (.inr (.inr f)))))) (ht : tys[t0]? = some (cA, ty)) {i : Int32} (hin : vp_in i n) (hdg : decode cc pc = .ok (.aaload, 1))
    (kk : W p l e R s m args below meth c H locs cells slots Q (F0 m (pc + 1) ls (va_rf (f i.toNatClampNeg) :: rest))) : W p l e R s m args below meth c H locs cells slots Q (F0 m pc ls (.int i :: .ref a :: rest)) := by
  have hlt : i.toNatClampNeg < n := Nat.not_le.mp fun q => hin (Or.inr q)
  exact W.aald (v := va_rf (f i.toNatClampNeg)) (ty := ty) hexec hb ha ((hK.2 t0 _ ht).1 n (fun j => va_rf (f j))) href (fun q => by cases q) (by show ¬ (i < 0 ∨ (arrV _ _ _).slots.size ≤ _); rw [arrV_size]; exact hin) (by show (arrV _ _ _).slots[_]? = _; rw [arrV_read _ _ hlt]) rfl rfl hdg kk
theorem j_aald (C : Cx p s m args meth c cc nL own ret Ts g) (ck : Nat) (ty : FieldType) (hck : (tysW g)[ck]? = some (g.2.1 ck, ty)) (href : ty.isReference = true) {k i n : Nat} {f : Nat → Option Nat} {x : Int32} (hk : k ≠ 17) (he : ∀ η, cw g ad χ T σ η k i = some (aR g ck n f)) (hin : inB x n = true) (hdg : decode cc pc = .ok (.aaload, 1))
    (kk : JJ p l e R s m args below meth c nL g ad Q χ T σ cells slots L (pc + 1) (va_rf (f x.toNatClampNeg) :: st)) : JJ p l e R s m args below meth c nL g ad Q χ T σ cells slots L pc (.int x :: .ref (ad k i) :: st) := by
  intro H locs ls hW hS hl
  exact W.aaldR C.x C.b C.k.1 href (hW.at hk he).1 hck (inB_in hin) hdg (kk H locs ls hW hS hl)
theorem j_iast (C : Cx p s m args meth c cc nL own ret Ts g) {k i n : Nat} {f : Nat → Int32} {x v : Int32} (hk : k ≠ 17) (he : ∀ η, cw g ad χ T σ η k i = some (aI g n f)) (he' : ∀ η, cw g ad χ' T' σ' η k i = some (aI g n (upd f x.toNatClampNeg v))) (ho : ∀ η k' i', ¬ (k' = k ∧ i' = i) → cw g ad χ' T' σ' η k' i' = cw g ad χ T σ η k' i') (hlo : ∀ η, LOK ad χ η → LOK ad χ' η) (hwt : WT χ → WT χ') (hin : inB x n = true) (hdg : decode cc pc = .ok (.iastore, 1))
    (kk : JJ p l e R s m args below meth c nL g ad Q χ' T' σ' cells slots L (pc + 1) st) : JJ p l e R s m args below meth c nL g ad Q χ T σ cells slots L pc (.int v :: .int x :: .ref (ad k i) :: st) := by
  intro H locs ls hW hS hl
  obtain ⟨hat, hge⟩ := hW.at hk he
  have hin' := inB_in hin
  refine W.iast C.x C.b hat ((C.k.1.2 0 _ rfl).1 n (fun j => .int (f j))) (fun q => by cases q) (by show ¬ (x < 0 ∨ (arrV _ _ _).slots.size ≤ _); rw [arrV_size]; exact hin') rfl rfl hdg fun H1 e1 z oq => ?_
  refine kk H1 _ ls (hW.put hk he he' ho hlo hwt ?_ z oq) (hS.put z oq hge) hl
  show H1[ad k i]? = some (vp_cell _ _)
  rw [e1, vp_cell_i, vp_cell_i, arrV_store]
  congr 2
  funext q
  by_cases hq : q = x.toNatClampNeg
  · subst hq; simp [updV, upd]
  · simp [updV, upd, hq]
theorem bo_nar {v : Int32} (h : v = 0 ∨ v = 1) : narrow .boolean (.int v) = .int v := by
  rcases h with rfl | rfl <;> decide
theorem bo_fit {v : Int32} (h : v = 0 ∨ v = 1) : fits .boolean (.int v) = true := by
  rcases h with rfl | rfl <;> decide
theorem j_zast (C : Cx p s m args meth c cc nL own ret Ts g) {k i n : Nat} {f : Nat → Int32} {x v : Int32} (hbo : v = 0 ∨ v = 1) (hk : k ≠ 17) (he : ∀ η, cw g ad χ T σ η k i = some (aZ g n f)) (he' : ∀ η, cw g ad χ' T' σ' η k i = some (aZ g n (upd f x.toNatClampNeg v))) (ho : ∀ η k' i', ¬ (k' = k ∧ i' = i) → cw g ad χ' T' σ' η k' i' = cw g ad χ T σ η k' i') (hlo : ∀ η, LOK ad χ η → LOK ad χ' η) (hwt : WT χ → WT χ') (hin : inB x n = true) (hdg : decode cc pc = .ok (.bastore, 1))
    (kk : JJ p l e R s m args below meth c nL g ad Q χ' T' σ' cells slots L (pc + 1) st) : JJ p l e R s m args below meth c nL g ad Q χ T σ cells slots L pc (.int v :: .int x :: .ref (ad k i) :: st) := by
  intro H locs ls hW hS hl
  obtain ⟨hat, hge⟩ := hW.at hk he
  have hin' := inB_in hin
  refine W.zast C.x C.b hat ((C.k.1.2 2 _ rfl).1 n (fun j => .int (f j))) (fun q => by cases q) (by show ¬ (x < 0 ∨ (arrV _ _ _).slots.size ≤ _); rw [arrV_size]; exact hin') rfl rfl hdg fun H1 e1 z oq => ?_
  refine kk H1 _ ls (hW.put hk he he' ho hlo hwt ?_ z oq) (hS.put z oq hge) hl
  show H1[ad k i]? = some (vp_cell _ _)
  rw [e1, bo_nar hbo, vp_cell_i, vp_cell_i, arrV_store]
  congr 2
  funext q
  by_cases hq : q = x.toNatClampNeg
  · subst hq; simp [updV, upd]
  · simp [updV, upd, hq]
theorem j_last (C : Cx p s m args meth c cc nL own ret Ts g) {k i n : Nat} {f : Nat → Int64} {x : Int32} {v : Int64} (hk : k ≠ 17) (he : ∀ η, cw g ad χ T σ η k i = some (aL g n f)) (he' : ∀ η, cw g ad χ' T' σ' η k i = some (aL g n (vp_updL f x.toNatClampNeg v))) (ho : ∀ η k' i', ¬ (k' = k ∧ i' = i) → cw g ad χ' T' σ' η k' i' = cw g ad χ T σ η k' i') (hlo : ∀ η, LOK ad χ η → LOK ad χ' η) (hwt : WT χ → WT χ') (hin : inB x n = true) (hdg : decode cc pc = .ok (.lastore, 1))
    (kk : JJ p l e R s m args below meth c nL g ad Q χ' T' σ' cells slots L (pc + 1) st) : JJ p l e R s m args below meth c nL g ad Q χ T σ cells slots L pc (.long v :: .int x :: .ref (ad k i) :: st) := by
  intro H locs ls hW hS hl
  obtain ⟨hat, hge⟩ := hW.at hk he
  have hin' := inB_in hin
  refine W.last C.x C.b hat ((C.k.1.2 1 _ rfl).1 n (fun j => .long (f j))) (fun q => by cases q) (by show ¬ (x < 0 ∨ (arrV _ _ _).slots.size ≤ _); rw [arrV_size]; exact hin') rfl rfl hdg fun H1 e1 z oq => ?_
  refine kk H1 _ ls (hW.put hk he he' ho hlo hwt ?_ z oq) (hS.put z oq hge) hl
  show H1[ad k i]? = some (vp_cell _ _)
  rw [e1, vp_cell_l, vp_cell_l, arrV_store]
  congr 2
  funext q
  by_cases hq : q = x.toNatClampNeg
  · subst hq; simp [updV, vp_updL]
  · simp [updV, vp_updL, hq]
end RBB
