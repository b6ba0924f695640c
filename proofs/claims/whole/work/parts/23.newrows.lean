theorem fs_X4 : ∀ j, j < 6 → defaultValue (tyX4 j) = vp_V [.int 0, .int 0, .int 0, .int 0, .int 0, .int 0] j := fun j hj => by
  match j, hj with
  | 0, _ => rfl
  | 1, _ => rfl
  | 2, _ => rfl
  | 3, _ => rfl
  | 4, _ => rfl
  | 5, _ => rfl
theorem fs_X5 : ∀ j, j < 6 → defaultValue (tyX5 j) = vp_V [.int 0, .int 0, .null, .null, .int 0, .int 0] j := fun j hj => by
  match j, hj with
  | 0, _ => rfl
  | 1, _ => rfl
  | 2, _ => rfl
  | 3, _ => rfl
  | 4, _ => rfl
  | 5, _ => rfl
theorem fs_X6 : ∀ j, j < 2 → defaultValue (tyX6 j) = vp_V [.int 0, .null] j := fun j hj => by
  match j, hj with
  | 0, _ => rfl
  | 1, _ => rfl
section PRD
variable {p : Program} {l : Launch} {e : Env} {R : Room} {s : State} {m : MethodId} {args : Array Value} {below : List Frame} {meth : Method} {c : Code} {Q : State → Prop}
variable {cc : ByteArray} {nL : Nat} {own : String} {ret : Option FieldType} {Ts : List Cond} {g : Gc} {ad : Nat → Nat → Nat} {χ χ' : Mem} {T T' : Nat → Mem} {σ σ' : Mem} {cells slots : Nat} {L L' : List (Nat × Value)} {pc : Nat} {st st' : List Value} {η : Hid} {H H1 : Heap}
theorem one_P {e0 : va_E} (h : CWη g ad χ T σ η H) (he : cw g ad χ T σ η 22 0 = some e0) : va_P g.1 vwCl [(ad 22 0, e0)] H := fun j x hx => by
  match j, hx with
  | 0, hx => cases hx; exact h.1 22 0 e0 he
  | j + 1, hx => simp at hx
theorem one_D {e0 : va_E} (h : CWη g ad χ T σ η H) (he : cw g ad χ T σ η 22 0 = some e0) : va_D (geB g) [(ad 22 0, e0)] := by
  refine ⟨fun i j p q hi hj e => ?_, fun k q hk => ?_⟩
  · match i, j, hi, hj with
    | 0, 0, _, _ => rfl
    | i + 1, _, hi, _ => simp at hi
    | 0, j + 1, _, hj => simp at hj
  · match k, hk with
    | 0, hk => cases hk; exact h.2.2.1 22 0 (by rw [he]; rfl)
    | k + 1, hk => simp at hk
theorem one_pre (C : Cx p s m args meth c cc nL own ret Ts g) {locs : List Loc} {e0 : va_E} (h : CWη g ad χ T σ η H) (he : cw g ad χ T σ η 22 0 = some e0) (hS : va_S (geB g) s.heap H locs) {U : State} (hU : U.heap = H) (hw : s.WarmedH U.vm) (av : List Value) : PreL g [(ad 22 0, e0)] H.size RX4 (fun _ => False) av av.toArray U := by
  have hp := j_pre C (⟨η, h⟩ : CW g ad χ T σ H) hS hU hw
  exact ⟨rfl, hp.1, hp.2.1, by rw [hU], h.2.2.2.2.2, by rw [hU]; exact one_P h he, one_D h he, fun y hy => absurd hy id⟩
theorem one_sub {e0 : va_E} (h : CWη g ad χ T σ η H) (he : cw g ad χ T σ η 22 0 = some e0) : ∀ q, va_A [(ad 22 0, e0)] H.size q → geB g q := vaA_in h.2.2.2.2.2 (one_D h he)
theorem one_off {e0 : va_E} {a q : Nat} (h1 : q < H.size) (h2 : q ≠ a) : ¬ va_A [(a, e0)] H.size q := by
  intro z
  rcases z with ⟨k, e2, hk⟩ | z
  · match k, hk with
    | 0, hk => cases hk; exact h2 rfl
    | k + 1, hk => simp at hk
  · omega
theorem j_initPin (C : Cx p s m args meth c cc nL own ret COM g) {index N : Nat} {n x y : Int32} (hN : gN χ 8 0 = N) (h83 : gN χ 8 3 = 1)
    (cw0 : CallB R s args own index yX4_init cX4_init 4 none (WS yX4_init cX4_init 4 none) rm_X4_init 0 0 3 ∧ yX4_init.name = "<init>" ∧ (Cond.instanceMethod yX4_init).before args s = true)
    (hW8 : (st.map fun v => v.category).sum ≤ 8) (hdg : decode cc pc = .ok (.invokespecial index, 3)) (hf : cells + 0 ≤ R.cells ∧ slots + 0 ≤ R.slots)
    (kk : ∀ ad' : Nat → Nat → Nat, Ext χ ad ad' → ad' 18 N = ad 22 0 → JJ p l e R s m args below meth c nL g ad' Q (mkPin χ n x y) T σ cells slots L (pc + 3) st) : JJ p l e R s m args below meth c nL g ad Q χ T σ cells slots L pc (.int y :: .int x :: .int n :: .ref (ad 22 0) :: st) := by
  subst hN
  intro H locs lo hW hS hL
  obtain ⟨η, h⟩ := hW
  have he := pend_some (g := g) (ad := ad) (χ := χ) (T := T) (σ := σ) η h83 (show pend 1 = _ from rfl)
  refine va_callv (va_runI (As := [.int n, .int x, .int y]) (rest := st) C.fix (c_X4_init (ws := [(ad 22 0, .inr (5, [.int 0, .int 0, .int 0, .int 0, .int 0, .int 0]))]) (Cn := RX4) (Y := fun _ => False) (n := n) (x := x) (y := y) rfl H.size) cw0 ⟨fb_preL, fun U hU hw => one_pre C h he hS hU hw _⟩ rfl rfl hL.1 rfl (lv_room hW8) hdg hf) hS (fun q _ h2 => one_sub h he q h2) (one_sub h he) (fun u t H1 locs1 ht hvm hp hB hz hk hS1 => ?_)
  have hV : VW g (va_A [(ad 22 0, _)] H.size) u t.heap := hB
  rw [ht] at hV
  have hat := hV.1 0 _ hp.1
  have hx : Ext χ ad (adq ad 18 (gN χ 8 0) (ad 22 0)) := fun k i a _ _ _ => adq_ne (fun z => by have := a z.1; omega)
  refine kk _ hx adq_at H1 locs1 lo (CW.born h hz (fun q h1 h2 => hk q h1 (one_off h1 h2)) he mkPin_83 (by decide) hx (fun ad2 k i a b => mkPin_cw η a b) mkPin_at hat (fun hl => LOK_of (χ := χ) ?_ (fun a ha _ => mkPin_N ha) hl) (fun hw => WT_of (χ := χ) ?_ (fun a ha _ => mkPin_N ha) (fun j hj => ?_) (mkPin_8 (by decide) (by decide)) hw)) hS1 hL
  · funext j; exact mkPin_I (Or.inl (by decide))
  · funext j; exact mkPin_I (Or.inl (by decide))
  · match j, hj with
    | 0, _ => rw [mkPin_80]; omega
    | 1, _ => rw [mkPin_8 (by decide) (by decide)]; exact Nat.le_refl _
    | 2, _ => rw [mkPin_8 (by decide) (by decide)]; exact Nat.le_refl _
theorem j_initRod (C : Cx p s m args meth c cc nL own ret COM g) {index N a b : Nat} {n kd pr : Int32} (hN : gN χ 8 1 = N) (h83 : gN χ 8 3 = 2) (ha : a < gN χ 8 0) (hb : b < gN χ 8 0)
    (cw0 : CallB R s args own index yX5_init cX5_init 6 none (WS yX5_init cX5_init 6 none) rm_X5_init 0 0 5 ∧ yX5_init.name = "<init>" ∧ (Cond.instanceMethod yX5_init).before args s = true)
    (hW8 : (st.map fun v => v.category).sum ≤ 8) (hdg : decode cc pc = .ok (.invokespecial index, 3)) (hf : cells + 0 ≤ R.cells ∧ slots + 0 ≤ R.slots)
    (kk : ∀ ad' : Nat → Nat → Nat, Ext χ ad ad' → ad' 19 N = ad 22 0 → JJ p l e R s m args below meth c nL g ad' Q (mkRod χ n kd a b pr) T σ cells slots L (pc + 3) st) : JJ p l e R s m args below meth c nL g ad Q χ T σ cells slots L pc (.int pr :: .ref (ad 18 b) :: .ref (ad 18 a) :: .int kd :: .int n :: .ref (ad 22 0) :: st) := by
  subst hN
  intro H locs lo hW hS hL
  obtain ⟨η, h⟩ := hW
  have he := pend_some (g := g) (ad := ad) (χ := χ) (T := T) (σ := σ) η h83 (show pend 2 = _ from rfl)
  refine va_callv (va_runI (As := [.int n, .int kd, .ref (ad 18 a), .ref (ad 18 b), .int pr]) (rest := st) C.fix (c_X5_init (ws := [(ad 22 0, .inr (6, [.int 0, .int 0, .null, .null, .int 0, .int 0]))]) (Cn := RX4) (Y := fun _ => False) (n := n) (kd := kd) (pr := pr) (a := ad 18 a) (b := ad 18 b) rfl H.size) cw0 ⟨fb_preL, fun U hU hw => one_pre C h he hS hU hw _⟩ rfl rfl hL.1 rfl (lv_room hW8) hdg hf) hS (fun q _ h2 => one_sub h he q h2) (one_sub h he) (fun u t H1 locs1 ht hvm hp hB hz hk hS1 => ?_)
  have hV : VW g (va_A [(ad 22 0, _)] H.size) u t.heap := hB
  rw [ht] at hV
  have hat := hV.1 0 _ hp.1
  have hx : Ext χ ad (adq ad 19 (gN χ 8 1) (ad 22 0)) := fun k i _ a _ _ => adq_ne (fun z => by have := a z.1; omega)
  have hat2 : cw g (adq ad 19 (gN χ 8 1) (ad 22 0)) (mkRod χ n kd a b pr) T σ η 19 (gN χ 8 1) = some (.inr (6, [.int n, .int kd, .ref (ad 18 a), .ref (ad 18 b), .int pr, .int (if kd < 3 then 1 else 0)])) := by
    rw [mkRod_at, hx.pin ha, hx.pin hb]
  refine kk _ hx adq_at H1 locs1 lo (CW.born h hz (fun q h1 h2 => hk q h1 (one_off h1 h2)) he mkRod_83 (by decide) hx (fun ad2 k i a b => mkRod_cw η a b) hat2 hat (fun hl => LOK_of (χ := χ) ?_ (fun a h1 h2 => mkRod_N (by omega)) hl) (mkRod_WT ha hb)) hS1 hL
  funext j; exact mkRod_I (Or.inl (by decide))
theorem nI_inB {z : Int32} {n : Nat} (h : inB z n = true) : (if z < (0 : Int32) then (0 : Int32) else z) = nI z.toNatClampNeg := by
  have h0 : ¬ z < 0 := fun q => (inB_in h) (Or.inl q)
  rw [if_neg h0]
  obtain ⟨j, hj, e⟩ := nI_of (x := z) h0
  rw [e, nI_clamp hj]
theorem j_initRow (C : Cx p s m args meth c cc nL own ret COM g) {index N : Nat} {so z : Int32} (hN : gN χ 8 2 = N) (h83 : gN χ 8 3 = 3) (hz16 : inB z 16 = true)
    (cw0 : CallB R s args own index yX6_init cX6_init 3 none (WS yX6_init cX6_init 3 none) rm_X6_init 1 15 2 ∧ yX6_init.name = "<init>" ∧ (Cond.instanceMethod yX6_init).before args s = true)
    (hW8 : (st.map fun v => v.category).sum ≤ 8) (hdg : decode cc pc = .ok (.invokespecial index, 3)) (hf : cells + 1 ≤ R.cells ∧ slots + 15 ≤ R.slots)
    (kk : ∀ ad' : Nat → Nat → Nat, Ext χ ad ad' → ad' 20 N = ad 22 0 → JJ p l e R s m args below meth c nL g ad' Q (mkRow χ so z.toNatClampNeg) T σ (cells + 1) (slots + 15) L (pc + 3) st) : JJ p l e R s m args below meth c nL g ad Q χ T σ cells slots L pc (.int z :: .int so :: .ref (ad 22 0) :: st) := by
  subst hN
  intro H locs lo hW hS hL
  obtain ⟨η, h⟩ := hW
  have he := pend_some (g := g) (ad := ad) (χ := χ) (T := T) (σ := σ) η h83 (show pend 3 = _ from rfl)
  refine va_callv (va_runI (As := [.int so, .int z]) (rest := st) C.fix (c_X6_init (ws := [(ad 22 0, .inr (7, [.int 0, .null]))]) (Cn := RX4) (Y := fun _ => False) (so := so) (z := z) (N := z.toNatClampNeg) rfl (Nat.le_of_lt_succ (inB_lt hz16)) (nI_inB hz16) rfl H.size) cw0 ⟨fb_preL, fun U hU hw => one_pre C h he hS hU hw _⟩ rfl rfl hL.1 rfl (lv_room hW8) hdg hf) hS (fun q _ h2 => one_sub h he q h2) (one_sub h he) (fun u t H1 locs1 ht hvm hp hB hz hk hS1 => ?_)
  have hV : VW g (va_A [(ad 22 0, _)] H.size) u t.heap := hB
  rw [ht] at hV
  obtain ⟨q2, hp0, hp1⟩ := hp
  have hat := hV.1 0 _ hp0
  have hat1 := hV.1 1 _ hp1
  have hq2A : va_A [(ad 22 0, _)] H.size q2 := hV.2.2 1 _ hp1
  have hne : q2 ≠ ad 22 0 := fun w => by
    have := hV.2.1 1 0 _ _ hp1 hp0 w
    omega
  have hq2 : H.size ≤ q2 := by
    rcases hq2A with ⟨k, e2, hk2⟩ | w
    · match k, hk2 with
      | 0, hk2 => cases hk2; exact absurd rfl hne
      | k + 1, hk2 => simp at hk2
    · exact w
  have hx : Ext χ ad (adq (adq ad 21 (gN χ 8 2) q2) 20 (gN χ 8 2) (ad 22 0)) := fun k i _ _ a _ => (adq_ne (fun z => by have := a (Or.inl z.1); omega)).trans (adq_ne (fun z => by have := a (Or.inr z.1); omega))
  have a20 : adq (adq ad 21 (gN χ 8 2) q2) 20 (gN χ 8 2) (ad 22 0) 20 (gN χ 8 2) = ad 22 0 := adq_at
  have a21 : adq (adq ad 21 (gN χ 8 2) q2) 20 (gN χ 8 2) (ad 22 0) 21 (gN χ 8 2) = q2 := (adq_ne (fun z => absurd z.1 (by decide))).trans adq_at
  have hI : ∀ q, q ≠ 16 → gI (mkRow χ so z.toNatClampNeg) q = gI χ q := fun q hq => by funext j; exact mkRow_I (Or.inl hq)
  have hNN : ∀ q, q ≠ 8 → q ≠ 9 → gN (mkRow χ so z.toNatClampNeg) q = gN χ q := fun q h1 h2 => by funext j; exact mkRow_N h1 (Or.inl h2)
  refine kk _ hx a20 H1 locs1 lo (CW.build h hz (fun q hq hn => hk q hq (one_off hq (fun w => hn ⟨w, by rw [he]; rfl⟩))) (fun k i => (k = 20 ∨ k = 21) ∧ i = gN χ 8 2) (fun k i hN hs => ?_) (fun k i e2 hN he2 => ?_) (fun k i k' i' h1 h2 h3 => ?_) ?_ ?_) hS1 hL
  · have h22 : k ≠ 22 := by
      intro w
      subst w
      by_cases i0 : i = 0
      · subst i0
        rw [cw_22, mkRow_83] at hs
        exact absurd hs (by decide)
      · rw [cw_22i η i0] at hs; cases hs
    refine ⟨h22, ?_, (adq_ne (fun w => hN ⟨Or.inl w.1, w.2⟩)).trans (adq_ne (fun w => hN ⟨Or.inr w.1, w.2⟩))⟩
    rw [mkRow_cw η hN h22]
    exact cw_ad hx h.2.2.2.2.1 η k i
  · obtain ⟨rfl | rfl, rfl⟩ := hN
    · rw [mkRow_at, a21] at he2
      cases he2
      rw [a20]
      exact ⟨by decide, hat, Or.inl ⟨rfl, by rw [he]; rfl⟩⟩
    · rw [mkRow_at2] at he2
      cases he2
      rw [a21]
      exact ⟨by decide, hat1, Or.inr hq2⟩
  · obtain ⟨rfl | rfl, rfl⟩ := h1 <;> obtain ⟨rfl | rfl, rfl⟩ := h2
    · exact ⟨rfl, rfl⟩
    · rw [a20, a21] at h3; exact absurd h3.symm hne
    · rw [a20, a21] at h3; exact absurd h3 hne
    · exact ⟨rfl, rfl⟩
  · exact LOK_of (χ := χ) (hI 14 (by decide)) (fun a h1 h2 => hNN a h1 (by omega)) (LOK_ext hx h.2.2.2.2.1 h.2.2.2.1)
  · have w := h.2.2.2.2.1
    have e0 : gN (mkRow χ so z.toNatClampNeg) 8 0 = gN χ 8 0 := mkRow_8 (by decide) (by decide)
    have e1 : gN (mkRow χ so z.toNatClampNeg) 8 1 = gN χ 8 1 := mkRow_8 (by decide) (by decide)
    refine ⟨fun l j hl hj => ?_, fun i hi => ?_, fun t ht => ?_, fun l hl => ?_⟩
    · rw [hI 14 (by decide)] at hj
      rw [hNN l (by omega) (by omega)]
      have := w.1 l j hl hj
      rcases elK_or l with q | q
      · rw [if_pos q] at this ⊢; rw [e0]; exact this
      · rw [if_neg (by rw [q]; decide)] at this ⊢; rw [e1]; exact this
    · rw [e1] at hi
      rw [hNN 6 (by decide) (by decide), hNN 7 (by decide) (by decide), e0]
      exact w.2.1 i hi
    · rw [hNN 10 (by decide) (by decide), e1, mkRow_82]
      exact ⟨(w.2.2.1 t ht).1, fun q q2 => Nat.lt_succ_of_lt ((w.2.2.1 t ht).2 q q2)⟩
    · rw [hI 14 (by decide)]; exact w.2.2.2 l hl
/-! contracts that make objects: the addresses behind them are others -/
def PoEI (g : Gc) (χ0 : Mem) (ad0 : Nat → Nat → Nat) (χ : Mem) (T : Nat → Mem) (σ : Mem) (r0 : Int32) : Array Value → State → Outcome → State → Prop := va_Qi (S := Nat → Nat → Nat) (fun r ad' => r = r0 ∧ Ext χ0 ad0 ad') (fun ad' t => CWs g ad' χ T σ t) (geB g)
def PoER (g : Gc) (χ0 : Mem) (ad0 : Nat → Nat → Nat) (χ : Mem) (T : Nat → Mem) (σ : Mem) (f : (Nat → Nat → Nat) → Option Nat) : Array Value → State → Outcome → State → Prop := va_Qq (S := Nat → Nat → Nat) (fun r ad' => r = f ad' ∧ Ext χ0 ad0 ad') (fun ad' t => CWs g ad' χ T σ t) (geB g)
theorem j_re (hL : L = L') (hst : st = st') (kk : JJ p l e R s m args below meth c nL g ad Q χ T σ cells slots L' pc st') : JJ p l e R s m args below meth c nL g ad Q χ T σ cells slots L pc st := by
  subst hL; subst hst; exact kk
theorem j_callEi (C : Cx p s m args meth c cc nL own ret Ts g) {y : MethodName} {bytes : ByteArray} {maxL mc ms n index : Nat} {rt : FieldType} {ws : List Cond} {rm : Room} {b : Nat} {As rest : List Value} {r0 : Int32} {Cn : String} (hM : Met l y ws rm (PreW g ad χ T σ (.ref b :: As)) (PoEI g χ ad χ' T' σ' r0) mc ms (geB g)) (cw : CallW R s args own Cn index y bytes maxL (some rt) ws rm mc ms n) (hrv : ∀ H, CW g ad χ T σ H → ∃ cellB : Cell, H[b]? = some cellB ∧ cellB.vm.isStatics = false ∧ s.vm.findClass Cn = some cellB.cls) (hn : As.length = n) (hst : st = As.reverse ++ .ref b :: rest) (hW8 : (rest.map fun v => v.category).sum ≤ 8) (hdg : decode cc pc = .ok (.invokevirtual index, 3)) (hf : cells + mc ≤ R.cells ∧ slots + ms ≤ R.slots)
    (kk : ∀ ad' : Nat → Nat → Nat, Ext χ ad ad' → JJ p l e R s m args below meth c nL g ad' Q χ' T' σ' (cells + mc) (slots + ms) L (pc + 3) (.int r0 :: rest)) : JJ p l e R s m args below meth c nL g ad Q χ T σ cells slots L pc st := by
  intro H locs ls hW hS hl
  refine va_calli (va_runV (As := As) (rest := rest) C.fix hM cw ⟨fb_pre, hrv H hW, fun U hU hw => ⟨rfl, j_pre C hW hS hU hw⟩⟩ rfl hn hl.1 hst (lv_room hW8) hdg hf) hS (fun q _ h => h) (fun q h => h) (fun r u t H1 locs1 ht hvm hp hB hz hk hS1 => ?_)
  obtain ⟨rfl, hx⟩ := hp
  obtain ⟨-, -, hW1⟩ := hB
  rw [ht] at hW1
  exact kk u hx H1 locs1 ls hW1 hS1 hl
theorem j_callEq (C : Cx p s m args meth c cc nL own ret Ts g) {y : MethodName} {bytes : ByteArray} {maxL mc ms n index : Nat} {rt : FieldType} {ws : List Cond} {rm : Room} {b : Nat} {As rest : List Value} {f : (Nat → Nat → Nat) → Option Nat} {Cn : String} (hM : Met l y ws rm (PreW g ad χ T σ (.ref b :: As)) (PoER g χ ad χ' T' σ' f) mc ms (geB g)) (cw : CallW R s args own Cn index y bytes maxL (some rt) ws rm mc ms n) (hrv : ∀ H, CW g ad χ T σ H → ∃ cellB : Cell, H[b]? = some cellB ∧ cellB.vm.isStatics = false ∧ s.vm.findClass Cn = some cellB.cls) (hn : As.length = n) (hst : st = As.reverse ++ .ref b :: rest) (hW8 : (rest.map fun v => v.category).sum ≤ 8) (hdg : decode cc pc = .ok (.invokevirtual index, 3)) (hf : cells + mc ≤ R.cells ∧ slots + ms ≤ R.slots)
    (kk : ∀ ad' : Nat → Nat → Nat, Ext χ ad ad' → JJ p l e R s m args below meth c nL g ad' Q χ' T' σ' (cells + mc) (slots + ms) L (pc + 3) (va_rf (f ad') :: rest)) : JJ p l e R s m args below meth c nL g ad Q χ T σ cells slots L pc st := by
  intro H locs ls hW hS hl
  refine va_callq (va_runV (As := As) (rest := rest) C.fix hM cw ⟨fb_pre, hrv H hW, fun U hU hw => ⟨rfl, j_pre C hW hS hU hw⟩⟩ rfl hn hl.1 hst (lv_room hW8) hdg hf) hS (fun q _ h => h) (fun q h => h) (fun r u t H1 locs1 ht hvm hp hB hz hk hS1 => ?_)
  obtain ⟨rfl, hx⟩ := hp
  obtain ⟨-, -, hW1⟩ := hB
  rw [ht] at hW1
  exact kk u hx H1 locs1 ls hW1 hS1 hl
theorem j_iretE (C : Cx p s m args meth c cc nL own ret Ts g) {χ0 : Mem} {ad0 : Nat → Nat → Nat} (hx : Ext χ0 ad0 ad) {mc ms : Nat} {v : Int32} {ty : FieldType} (hr : ret = some ty) (hn : narrow ty (.int v) = .int v) (hc : cells ≤ mc) (hs : slots ≤ ms) (hdg : decode cc pc = .ok (.ireturn, 1)) :
    JJ p l e R s m args below meth c nL g ad (MQ below (PoEI g χ0 ad0 χ T σ v) args s mc ms (geB g)) χ T σ cells slots L pc [.int v] := by
  intro H locs ls hW hS hl
  refine W.widen hc hs ?_
  exact W.zret C.x C.b (C.r.trans hr) hn (fun t ht hw => ⟨⟨v, ad, rfl, ⟨rfl, hx⟩, j_pre C hW hS ht hw⟩, hS.F ht⟩) hS.2.2 hdg C.lk
theorem j_aretE (C : Cx p s m args meth c cc nL own ret Ts g) {χ0 : Mem} {ad0 : Nat → Nat → Nat} (hx : Ext χ0 ad0 ad) {mc ms : Nat} {f : (Nat → Nat → Nat) → Option Nat} {rt : FieldType} (hr : ret = some rt) (hrt : (∃ n, rt = .object n) ∨ ∃ t, rt = .array t) (hc : cells ≤ mc) (hs : slots ≤ ms) (hdg : decode cc pc = .ok (.areturn, 1)) :
    JJ p l e R s m args below meth c nL g ad (MQ below (PoER g χ0 ad0 χ T σ f) args s mc ms (geB g)) χ T σ cells slots L pc [va_rf (f ad)] := by
  intro H locs ls hW hS hl
  refine W.widen hc hs ?_
  exact W.aret C.x C.b (C.r.trans hr) hrt (va_rf_or (f ad)) (fun t ht hw => ⟨⟨f ad, ad, rfl, ⟨rfl, hx⟩, j_pre C hW hS ht hw⟩, hS.F ht⟩) hS.2.2 hdg C.lk
/-! things -/
def TV (χ : Mem) (t : Nat) : Prop := (t % 2 = 1 → t / 2 < gN χ 8 1) ∧ (t ≠ 0 → t % 2 = 0 → t / 2 - 1 < gN χ 8 2)
def TVb (χ : Mem) (t : Nat) : Bool := if t = 0 then true else if t % 2 = 1 then decide (t / 2 < gN χ 8 1) else decide (t / 2 - 1 < gN χ 8 2)
theorem TVb_ok {t : Nat} (h : TVb χ t = true) : TV χ t := by
  unfold TVb at h
  by_cases h0 : t = 0
  · exact ⟨fun q => by omega, fun q => absurd h0 q⟩
  · rw [if_neg h0] at h
    by_cases h1 : t % 2 = 1
    · rw [if_pos h1] at h
      exact ⟨fun _ => of_decide_eq_true h, fun _ q => by omega⟩
    · rw [if_neg h1] at h
      exact ⟨fun q => absurd q h1, fun _ _ => of_decide_eq_true h⟩
theorem thA_0 : thA ad 0 = none := rfl
theorem thA_rod {t : Nat} (h : t % 2 = 1) : thA ad t = some (ad 19 (t / 2)) := by
  unfold thA
  rw [if_neg (by omega), if_pos h]
theorem thA_row {t : Nat} (h0 : t ≠ 0) (h : t % 2 = 0) : thA ad t = some (ad 20 (t / 2 - 1)) := by
  unfold thA
  rw [if_neg h0, if_neg (by omega)]
theorem th_rod (i : Nat) : (Value.ref (ad 19 i)) = va_rf (thA ad (2 * i + 1)) := by
  rw [thA_rod (by omega), show (2 * i + 1) / 2 = i by omega]; rfl
theorem th_row (i : Nat) : (Value.ref (ad 20 i)) = va_rf (thA ad (2 * i + 2)) := by
  rw [thA_row (by omega) (by omega), show (2 * i + 2) / 2 - 1 = i by omega]; rfl
def thO (o : Option Nat) : Nat := match o with | none => 0 | some j => 2 * j + 2
theorem th_opt (o : Option Nat) : va_rf (o.map (ad 20)) = va_rf (thA ad (thO o)) := by
  cases o with
  | none => rfl
  | some j => exact th_row j
theorem WT.tv (wt : WT χ) {t : Nat} (h : t < 6) : TV χ (gN χ 10 t) := wt.2.2.1 t h
theorem j_ifnonnullT (C : Cx p s m args meth c cc nL own ret Ts g) {t : Nat} {off : Int} {tgt : Nat} (ht : (pc : Int) + off = (tgt : Int)) (hdg : decode cc pc = .ok (.ifnonnull off, 3))
    (k0 : t = 0 → JJ p l e R s m args below meth c nL g ad Q χ T σ cells slots L (pc + 3) st) (k1 : ¬ t = 0 → JJ p l e R s m args below meth c nL g ad Q χ T σ cells slots L tgt st) : JJ p l e R s m args below meth c nL g ad Q χ T σ cells slots L pc (va_rf (thA ad t) :: st) := by
  by_cases h0 : t = 0
  · subst h0; exact j_ifnonnullN C hdg (k0 rfl)
  · by_cases h1 : t % 2 = 1
    · rw [thA_rod h1]; exact j_ifnonnullS C ht hdg (k1 h0)
    · rw [thA_row h0 (by omega)]; exact j_ifnonnullS C ht hdg (k1 h0)
theorem j_instNo (C : Cx p s m args meth c cc nL own ret Ts g) {index k i ci : Nat} {fs : List Value} {q : vw_C} {nm : String} (hlink : Cond.classLink own index nm ∈ Ts) (hno : va_Nc q.1 nm s) (hk : k ≠ 17) (he : ∀ η, cw g ad χ T σ η k i = some (.inr (ci, fs))) (hc : vwCl[ci]? = some q) (hdg : decode cc pc = .ok (.instanceof index, 3))
    (kk : JJ p l e R s m args below meth c nL g ad Q χ T σ cells slots L (pc + 3) (.int 0 :: st)) : JJ p l e R s m args below meth c nL g ad Q χ T σ cells slots L pc (.ref (ad k i) :: st) :=
  fun H locs ls hW hS hl => va_instNo C.x C.b C.ow (C.ts _ hlink) hno (CW.rv C.k hW hk he hc) hdg (kk H locs ls hW hS hl)
theorem j_instRod (C : Cx p s m args meth c cc nL own ret Ts g) {index t : Nat} (hv : TV χ t) (hlink : Cond.classLink own index RX5 ∈ Ts) (hdg : decode cc pc = .ok (.instanceof index, 3))
    (kk : JJ p l e R s m args below meth c nL g ad Q χ T σ cells slots L (pc + 3) (.int (if t % 2 = 1 then 1 else 0) :: st)) : JJ p l e R s m args below meth c nL g ad Q χ T σ cells slots L pc (va_rf (thA ad t) :: st) := by
  by_cases h1 : t % 2 = 1
  · rw [thA_rod h1]; rw [if_pos h1] at kk
    exact j_instS (q := (RX5, TX5, 6)) C hlink (by decide) (cw_19 (hv.1 h1)) rfl hdg kk
  · rw [if_neg h1] at kk
    by_cases h0 : t = 0
    · subst h0; exact j_instN C hdg kk
    · rw [thA_row h0 (by omega)]
      exact j_instNo (q := (RX6, TX6, 2)) C hlink C.k.2.2.2.2.2.2.2.2.2 (by decide) (cw_20 (hv.2 h0 (by omega))) rfl hdg kk
theorem j_instRow (C : Cx p s m args meth c cc nL own ret Ts g) {index t : Nat} (hv : TV χ t) (hlink : Cond.classLink own index RX6 ∈ Ts) (hdg : decode cc pc = .ok (.instanceof index, 3))
    (kk : JJ p l e R s m args below meth c nL g ad Q χ T σ cells slots L (pc + 3) (.int (if t ≠ 0 ∧ t % 2 = 0 then 1 else 0) :: st)) : JJ p l e R s m args below meth c nL g ad Q χ T σ cells slots L pc (va_rf (thA ad t) :: st) := by
  by_cases h0 : t = 0
  · rw [if_neg (fun q => q.1 h0)] at kk
    subst h0; exact j_instN C hdg kk
  · by_cases h1 : t % 2 = 0
    · rw [if_pos ⟨h0, h1⟩] at kk
      rw [thA_row h0 h1]
      exact j_instS (q := (RX6, TX6, 2)) C hlink (by decide) (cw_20 (hv.2 h0 h1)) rfl hdg kk
    · rw [if_neg (fun q => h1 q.2)] at kk
      rw [thA_rod (by omega)]
      exact j_instNo (q := (RX5, TX5, 6)) C hlink C.k.2.2.2.2.2.2.2.2.1 (by decide) (cw_19 (hv.1 (by omega))) rfl hdg kk
theorem j_castRod (C : Cx p s m args meth c cc nL own ret Ts g) {index t : Nat} (hv : TV χ t) (h1 : t % 2 = 1) (hlink : Cond.classLink own index RX5 ∈ Ts) (hdg : decode cc pc = .ok (.checkcast index, 3))
    (kk : JJ p l e R s m args below meth c nL g ad Q χ T σ cells slots L (pc + 3) (.ref (ad 19 (t / 2)) :: st)) : JJ p l e R s m args below meth c nL g ad Q χ T σ cells slots L pc (va_rf (thA ad t) :: st) := by
  rw [thA_rod h1]
  exact j_castS (q := (RX5, TX5, 6)) C hlink (by decide) (cw_19 (hv.1 h1)) rfl hdg kk
theorem j_castRow (C : Cx p s m args meth c cc nL own ret Ts g) {index t : Nat} (hv : TV χ t) (h1 : t ≠ 0 ∧ t % 2 = 0) (hlink : Cond.classLink own index RX6 ∈ Ts) (hdg : decode cc pc = .ok (.checkcast index, 3))
    (kk : JJ p l e R s m args below meth c nL g ad Q χ T σ cells slots L (pc + 3) (.ref (ad 20 (t / 2 - 1)) :: st)) : JJ p l e R s m args below meth c nL g ad Q χ T σ cells slots L pc (va_rf (thA ad t) :: st) := by
  rw [thA_row h1.1 h1.2]
  exact j_castS (q := (RX6, TX6, 2)) C hlink (by decide) (cw_20 (hv.2 h1.1 h1.2)) rfl hdg kk
theorem j_thget (C : Cx p s m args meth c cc nL own ret Ts g) {x : Int32} (hin : inB x 6 = true) (hdg : decode cc pc = .ok (.aaload, 1))
    (kk : JJ p l e R s m args below meth c nL g ad Q χ T σ cells slots L (pc + 1) (va_rf (thA ad (gN χ 10 x.toNatClampNeg)) :: st)) : JJ p l e R s m args below meth c nL g ad Q χ T σ cells slots L pc (.int x :: .ref (ad 8 0) :: st) := by
  refine j_aald C 3 (.object "RodBench$Thing") rfl rfl (by decide) cw_8 hin hdg ?_
  rw [if_pos (inB_lt hin)]
  exact kk
theorem j_lalen (C : Cx p s m args meth c cc nL own ret Ts g) {k i n : Nat} {f : Nat → Int64} (hk : k ≠ 17) (he : ∀ η, cw g ad χ T σ η k i = some (aL g n f)) (hdg : decode cc pc = .ok (.arraylength, 1))
    (kk : JJ p l e R s m args below meth c nL g ad Q χ T σ cells slots L (pc + 1) (.int (nI n) :: st)) : JJ p l e R s m args below meth c nL g ad Q χ T σ cells slots L pc (.ref (ad k i) :: st) := by
  intro H locs ls hW hS hl
  have hP : va_P g.1 vwCl [(ad k i, aL g n f)] H := fun j y hy => by
    match j, hy with
    | 0, hy => cases hy; exact (hW.at hk he).1
    | j + 1, hy => simp at hy
  exact va_alen (ws := [(ad k i, aL g n f)]) C.x C.b C.k.1 hP 0 1 rfl rfl rfl hdg (kk H locs ls hW hS hl)
theorem po_rownum {i0 : Nat} (h : i0 < gN χ 8 2) (j : Nat) (v : Int64) : PO g ad χ T σ (wL χ i0 j v) T σ 21 i0 (aL g (gN χ 9 i0) (gL χ i0)) (aL g (gN χ 9 i0) (vp_updL (gL χ i0) j v)) := by
  refine ⟨cw_21 h, fun η => ?_, fun η k' i' hn => cw_chi η k' i' (fun _ _ => ⟨rfl, rfl⟩) (fun _ _ => rfl) (fun _ _ => rfl) (fun _ _ => rfl) (fun _ _ => rfl) (fun _ => rfl) rfl (fun _ => ⟨rfl, rfl, rfl, rfl, rfl, rfl⟩) (fun _ => ⟨rfl, rfl, rfl, rfl, rfl, rfl⟩) (fun _ => rfl) (fun z => ⟨rfl, fn_L_ne χ j v (fun q => hn ⟨z, q⟩)⟩), fun η hl => hl, fun hw => hw⟩
  rw [cw_21 (χ := wL χ i0 j v) h, fn_L_eq]
  rfl
/-- a thing is put into a tray -/
theorem po_thing {t j : Nat} (hj : j < 6) (hv : TV χ t) : PO g ad χ T σ (wN χ 10 j t) T σ 8 0 (aR g 3 6 (fun a => if a < 6 then thA ad (gN χ 10 a) else none)) (aR g 3 6 (va_up (fun a => if a < 6 then thA ad (gN χ 10 a) else none) j (thA ad t))) := by
  have hN : ∀ a, a ≠ 10 → gN (wN χ 10 j t) a = gN χ a := fun a ha => by funext b; rw [gN_wN, if_neg (fun q => ha q.1)]
  refine ⟨cw_8, fun η => ?_, fun η k' i' hn => cw_chi η k' i' (fun _ _ => ⟨rfl, rfl⟩) (fun _ _ => rfl) (fun _ _ => rfl) (fun _ _ => rfl) (fun z z2 => absurd ⟨z, z2⟩ hn) (fun _ => rfl) (hN 8 (by decide)) (fun _ => ⟨rfl, rfl, rfl, rfl, rfl, rfl⟩) (fun _ => ⟨rfl, rfl, rfl, rfl, by rw [hN 6 (by decide)], by rw [hN 7 (by decide)]⟩) (fun _ => rfl) (fun z => ⟨by rw [hN 9 (by decide)], rfl⟩), fun η hl => LOK_of (χ := χ) rfl (fun a h1 h2 => hN a (by omega)) hl, fun hw => ?_⟩
  · rw [cw_8]
    congr 2
    funext a
    show (if a < 6 then thA ad (if 10 = 10 ∧ a = j then t else gN χ 10 a) else none) = (if a = j then thA ad t else (if a < 6 then thA ad (gN χ 10 a) else none))
    by_cases q : a = j
    · subst q; rw [if_pos hj, if_pos ⟨rfl, rfl⟩, if_pos rfl]
    · rw [if_neg q, if_neg (fun z : 10 = 10 ∧ a = j => q z.2)]
  · refine ⟨fun l b hl hb => ?_, fun i hi => ?_, fun a ha => ?_, fun l hl => hw.2.2.2 l hl⟩
    · rw [hN l (by omega), hN 8 (by decide)]; exact hw.1 l b hl hb
    · rw [hN 8 (by decide)] at hi; rw [hN 6 (by decide), hN 7 (by decide), hN 8 (by decide)]; exact hw.2.1 i hi
    · rw [hN 8 (by decide), gN_wN]
      by_cases q : a = j
      · rw [if_pos ⟨rfl, q⟩]; exact hv
      · rw [if_neg (fun z => q z.2)]; exact hw.2.2.1 a ha
theorem j_thput (C : Cx p s m args meth c cc nL own ret Ts g) {x : Int32} {t : Nat} (hin : inB x 6 = true) (hv : TV χ t) (hdg : decode cc pc = .ok (.aastore, 1))
    (kk : JJ p l e R s m args below meth c nL g ad Q (wN χ 10 x.toNatClampNeg t) T σ cells slots L (pc + 1) st) : JJ p l e R s m args below meth c nL g ad Q χ T σ cells slots L pc (va_rf (thA ad t) :: .int x :: .ref (ad 8 0) :: st) := by
  intro H locs ls hW hS hl
  have hP : va_P g.1 vwCl [(ad 8 0, aR g 3 6 (fun a => if a < 6 then thA ad (gN χ 10 a) else none))] H := fun j y hy => by
    match j, hy with
    | 0, hy => cases hy; exact (hW.at (by decide) cw_8).1
    | j + 1, hy => simp at hy
  have hge : geB g (ad 8 0) := (hW.at (k := 8) (i := 0) (by decide) cw_8).2
  have hD : va_D (geB g) [(ad 8 0, aR g 3 6 (fun a => if a < 6 then thA ad (gN χ 10 a) else none))] := by
    refine ⟨fun i j p q hi hj e => ?_, fun k q hk => ?_⟩
    · match i, j, hi, hj with
      | 0, 0, _, _ => rfl
      | i + 1, _, hi, _ => simp at hi
      | 0, j + 1, _, hj => simp at hj
    · match k, hk with
      | 0, hk => cases hk; exact hge
      | k + 1, hk => simp at hk
  have po := po_thing (g := g) (ad := ad) (T := T) (σ := σ) (inB_lt hin) hv
  have fin : ∀ H1 : Heap, va_P g.1 vwCl [(ad 8 0, aR g 3 6 (va_up (fun a => if a < 6 then thA ad (gN χ 10 a) else none) x.toNatClampNeg (thA ad t)))] H1 → H1.size = H.size → (∀ q : Nat, q ≠ ad 8 0 → H1[q]? = H[q]?) → CW g ad (wN χ 10 x.toNatClampNeg t) T σ H1 := fun H1 h1 h2 h3 =>
    hW.put (by decide) po.1 po.2.1 po.2.2.1 po.2.2.2.1 po.2.2.2.2 (h1 0 _ rfl) h2 h3
  obtain ⟨hat, -⟩ := hW.at (k := 8) (i := 0) (by decide) cw_8
  by_cases h0 : t = 0
  · subst h0
    refine va_WaastN (C := "RodBench$Thing") C.x C.b hat ((C.k.1.2 3 _ rfl).1 6 (fun j => va_rf ((fun a => if a < 6 then thA ad (gN χ 10 a) else none) j))) (fun h => by cases h) (by show ¬ (x < 0 ∨ (arrV _ _ _).slots.size ≤ _); rw [arrV_size]; exact inB_in hin) rfl rfl hdg fun H1 e1 z oq => ?_
    refine kk H1 _ ls (fin H1 (fun j y hy => ?_) z oq) (hS.put z oq hge) hl
    match j, hy with
    | 0, hy =>
      cases hy
      show H1[ad 8 0]? = some (vp_cell _ _)
      rw [e1, vp_cell_q, vp_cell_q, arrV_store]
      congr 2
      funext q
      by_cases hq : q = x.toNatClampNeg
      · subst hq; simp [updV, va_up, va_rf, thA_0]
      · simp [updV, va_up, hq]
    | j + 1, hy => simp at hy
  · have hr : ∃ v, thA ad t = some v ∧ va_Any "RodBench$Thing" s H v := by
      by_cases h1 : t % 2 = 1
      · refine ⟨_, thA_rod h1, ?_⟩
        obtain ⟨cell, q1, q2, q3⟩ := CW.rv C.k hW (by decide) (cw_19 (hv.1 h1)) (show vwCl[6]? = some (RX5, TX5, 6) from rfl)
        obtain ⟨kC, hkC, -⟩ := Vm.findClass_spec q3
        exact ⟨cell, q1, q2, ⟨kC, hkC⟩, fun comp h => asg_of (C.k.2.2.1 (RX5, "RodBench$Thing") List.mem_cons_self) comp _ h q3⟩
      · refine ⟨_, thA_row h0 (by omega), ?_⟩
        obtain ⟨cell, q1, q2, q3⟩ := CW.rv C.k hW (by decide) (cw_20 (hv.2 h0 (by omega))) (show vwCl[7]? = some (RX6, TX6, 2) from rfl)
        obtain ⟨kC, hkC, -⟩ := Vm.findClass_spec q3
        exact ⟨cell, q1, q2, ⟨kC, hkC⟩, fun comp h => asg_of (C.k.2.2.1 (RX6, "RodBench$Thing") (List.mem_cons_of_mem _ List.mem_cons_self)) comp _ h q3⟩
    obtain ⟨v, hv1, cellV, g1, g3, ⟨kC, hkC⟩, hasg⟩ := hr
    rw [hv1]
    obtain ⟨kA, comp, k1, k2, k3, -⟩ := (C.k.1.2 3 _ rfl).2
    obtain ⟨kE, hkE, -⟩ := Vm.findClass_spec k3
    refine W.aast C.x C.b hat (fun q h => by cases h) (fun h => by cases h) k1 k2 rfl hkE ⟨fun q => (inB_in hin) (Or.inl q), by show _ < (arrV _ _ _).slots.size; rw [arrV_size]; exact inB_lt hin⟩ g1 (fun q h => by rw [h] at g3; cases g3) hkC (hasg _ k3) rfl rfl hdg fun H1 e1 z oq => ?_
    refine kk H1 _ ls (fin H1 (fun j y hy => ?_) z oq) (hS.put z oq hge) hl
    match j, hy with
    | 0, hy =>
      cases hy
      show H1[ad 8 0]? = some (vp_cell _ _)
      rw [e1, vp_cell_q, vp_cell_q, arrV_store]
      congr 2
      funext q
      by_cases hq : q = x.toNatClampNeg
      · subst hq; simp [updV, va_up, va_rf, hv1]
      · simp [updV, va_up, hq]
    | j + 1, hy => simp at hy
end PRD
