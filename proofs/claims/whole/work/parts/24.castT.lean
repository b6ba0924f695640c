section PRE
variable {p : Program} {l : Launch} {e : Env} {R : Room} {s : State} {m : MethodId} {args : Array Value} {below : List Frame} {meth : Method} {c : Code} {Q : State → Prop}
variable {cc : ByteArray} {nL : Nat} {own : String} {ret : Option FieldType} {Ts : List Cond} {g : Gc} {ad : Nat → Nat → Nat} {χ χ' : Mem} {T T' : Nat → Mem} {σ σ' : Mem} {cells slots : Nat} {L L' : List (Nat × Value)} {pc : Nat} {st st' : List Value}
theorem j_castThing (C : Cx p s m args meth c cc nL own ret Ts g) {index i : Nat} (hi : i < gN χ 8 1) (hlink : Cond.classLink own index RX8 ∈ Ts) (hdg : decode cc pc = .ok (.checkcast index, 3))
    (kk : JJ p l e R s m args below meth c nL g ad Q χ T σ cells slots L (pc + 3) (.ref (ad 19 i) :: st)) : JJ p l e R s m args below meth c nL g ad Q χ T σ cells slots L pc (.ref (ad 19 i) :: st) :=
  fun H locs ls hW hS hl => va_castY (C := RX5) C.x C.b C.ow (C.ts _ hlink) (C.k.2.2.1 (RX5, RX8) List.mem_cons_self) (CW.rv C.k hW (by decide) (cw_19 hi) (show vwCl[6]? = some (RX5, TX5, 6) from rfl)) hdg (kk H locs ls hW hS hl)
end PRE
