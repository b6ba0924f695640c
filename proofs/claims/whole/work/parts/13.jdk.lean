theorem in_Jx4a65c : ∀ w ∈ u_ws RJx4a65c TJx4a65c 3, w ∈ COM := by
  intro w hw
  have hw : w ∈ [u_lay RJx4a65c TJx4a65c 0, u_lay RJx4a65c TJx4a65c 1, u_lay RJx4a65c TJx4a65c 2] := hw
  simp only [List.mem_cons, List.not_mem_nil, or_false] at hw
  rcases hw with rfl | rfl | rfl
  · exact mw_121
  · exact mw_117
  · exact mw_119
section RJK
variable {p : Program} {l : Launch} {e : Env} {R : Room} {s : State} {m : MethodId} {args : Array Value} {below : List Frame} {meth : Method} {c : Code} {Q : State → Prop}
variable {cc : ByteArray} {nL : Nat} {own : String} {ret : Option FieldType} {Ts : List Cond} {g : Gc} {A : Nat → Prop} {ws ws' : va_W} {cells slots : Nat} {L L' : List (Nat × Value)} {pc : Nat} {st : List Value} {Y : Nat → Prop} {Cn : String}
theorem k_ldcM (C : Cx p s m args meth c cc nL own ret Ts g) {index : Nat} (hlink : Cond.classLink own index "[Ljava/lang/Object;" ∈ Ts) (hdg : decode cc pc = .ok (.ldc index, 2))
    (kk : JG p l e R s m args below meth c nL A Q (VW g A ws) cells slots L (pc + 2) (.ref (g.2.1 6) :: st)) : JG p l e R s m args below meth c nL A Q (VW g A ws) cells slots L pc st :=
  fun H locs ls hW hS hl => va_ldcM C.x C.b C.ow (C.ts _ hlink) C.k.2.2.2.1 hdg (kk H locs ls hW hS hl)
theorem k_getC (C : Cx p s m args meth c cc nL own ret Ts g) {index q0 a n : Nat} {f : Nat → Option Nat} (hlink : Cond.methodLink own index ⟨"java/lang/Object", "getClass", "()Ljava/lang/Class;"⟩ ∈ Ts) (hsel : Cond.selects "[Ljava/lang/Object;" ⟨"java/lang/Object", "getClass", "()Ljava/lang/Class;"⟩ ⟨"java/lang/Object", "getClass", "()Ljava/lang/Class;"⟩ ∈ Ts) (hinst : Cond.instanceMethod ⟨"java/lang/Object", "getClass", "()Ljava/lang/Class;"⟩ ∈ Ts) (hnat : Cond.native ⟨"java/lang/Object", "getClass", "()Ljava/lang/Class;"⟩ ∈ Ts)
    (ha : ws[q0]? = some (a, aR g 4 n f)) (hframes : 1 ≤ R.frames) (hlocals : (st.map fun v => v.category).sum + 14 ≤ R.locals) (hdg : decode cc pc = .ok (.invokevirtual index, 3))
    (kk : JG p l e R s m args below meth c nL A Q (VW g A ws) cells slots L (pc + 3) (.ref (g.2.1 6) :: st)) : JG p l e R s m args below meth c nL A Q (VW g A ws) cells slots L pc (.ref a :: st) :=
  fun H locs ls hW hS hl => va_getC C.x C.b (C.ml.trans hl.1.symm) C.ow (C.ts _ hlink) (va_Dc.use C.k.2.2.2.2.1) (C.ts _ hsel) (C.ts _ hinst) (C.ts _ hnat) C.k.2.2.2.1 ⟨_, hW.1 q0 _ ha, rfl, va_nmO (C.k.1.2 4 _ rfl).2 rfl⟩ hframes hlocals hdg (kk H locs ls hW hS hl)
theorem k_acmp (C : Cx p s m args meth c cc nL own ret Ts g) {a b : Nat} {off : Int} {tgt : Nat} (ht : (pc : Int) + off = (tgt : Int)) (hab : a = b) (hdg : decode cc pc = .ok (.if_acmp .ne off, 3))
    (kk : JG p l e R s m args below meth c nL A Q (VW g A ws) cells slots L (pc + 3) st) : JG p l e R s m args below meth c nL A Q (VW g A ws) cells slots L pc (.ref b :: .ref a :: st) := by
  intro H locs ls hW hS hl
  exact lv_acmp_ne (rx := some a) (ry := some b) C.x C.b hdg ht (fun h => absurd (congrArg some hab) h) (fun _ => kk H locs ls hW hS hl)
theorem k_acmpE (C : Cx p s m args meth c cc nL own ret Ts g) {a b : Nat} {off : Int} {tgt : Nat} (ht : (pc : Int) + off = (tgt : Int)) (hdg : decode cc pc = .ok (.if_acmp .eq off, 3))
    (kt : a = b → JG p l e R s m args below meth c nL A Q (VW g A ws) cells slots L tgt st) (kf : ¬ a = b → JG p l e R s m args below meth c nL A Q (VW g A ws) cells slots L (pc + 3) st) : JG p l e R s m args below meth c nL A Q (VW g A ws) cells slots L pc (.ref b :: .ref a :: st) := by
  intro H locs ls hW hS hl
  exact lv_acmp_eq (rx := some a) (ry := some b) C.x C.b hdg ht (fun h => kt (Option.some.inj h) H locs ls hW hS hl) (fun h => kf (fun q => h (congrArg some q)) H locs ls hW hS hl)
end RJK
abbrev rm_newLength : Room := { frames := 1, cells := 0, slots := 0, locals := 24 }
set_option maxRecDepth 100000 in
set_option maxHeartbeats 4000000 in
theorem c_newLength {l : Launch} {g : Gc} {ws : va_W} {Cn : String} {Y : Nat → Prop} {x y z v : Int32} (hv : x + (if y < z then z else y) = v) (h0 : ¬ v ≤ 0) (h1 : ¬ 2147483639 < v) (sz : Nat) : Met l yJ8_newLength_cabcc (WS yJ8_newLength_cabcc cJ8_newLength_cabcc 4 (some .int)) rm_newLength (PreL g ws sz Cn Y [.int x, .int y, .int z]) (PoLi g (fun r ws2 => r = v ∧ ws2 = ws) (va_A ws sz)) 0 0 (va_A ws sz) := by
  refine k_met (by decide) (Nat.le_of_ble_eq_true rfl) fun p e s m below meth c C hAB hAf hel => ?_
  refine j_sub [0, 1, 2] rfl ?_
  refine j_iload_n C 0 rfl rfl dJ8_newLength_cabcc_0 ?_
  refine j_iload_n C 1 rfl rfl dJ8_newLength_cabcc_1 ?_
  refine j_iload_n C 2 rfl rfl dJ8_newLength_cabcc_2 ?_
  refine j_maxI C mw_390 mw_391 mw_78 mw_392 (Nat.le_of_ble_eq_true rfl) (Nat.le_of_ble_eq_true rfl) (Nat.le_of_ble_eq_true rfl) (Nat.le_of_ble_eq_true rfl) dJ8_newLength_cabcc_3 ?_
  refine j_iadd C dJ8_newLength_cabcc_6 ?_
  rw [hv]
  refine j_istore_n (L' := [(3, .int v), (0, .int x), (1, .int y), (2, .int z)]) C rfl (by decide) rfl dJ8_newLength_cabcc_7 ?_
  refine j_iconst (v := 0) C (by decide) dJ8_newLength_cabcc_8 ?_
  refine j_iload_n C 0 rfl rfl dJ8_newLength_cabcc_9 ?_
  refine j_icmp_ge (tgt := 21) C (by decide) dJ8_newLength_cabcc_10 (fun hc => (h0 hc).elim) (fun hc => ?_)
  refine j_iload_n C 0 rfl rfl dJ8_newLength_cabcc_13 ?_
  refine j_ldcI (v := 2147483639) C mw_393 dJ8_newLength_cabcc_14 ?_
  refine j_icmp_gt (tgt := 21) C (by decide) dJ8_newLength_cabcc_16 (fun hc => (h1 hc).elim) (fun hc => ?_)
  refine j_iload_n C 0 rfl rfl dJ8_newLength_cabcc_19 ?_
  exact k_iret C rfl rfl ⟨rfl, rfl⟩ (Nat.le_of_ble_eq_true rfl) (Nat.le_of_ble_eq_true rfl) dJ8_newLength_cabcc_20
abbrev rm_copyOf3 : Room := { frames := 1, cells := 1, slots := 21, locals := 40 }
set_option maxRecDepth 100000 in
set_option maxHeartbeats 4000000 in
theorem c_copyOf3 {l : Launch} {g : Gc} {ws : va_W} {Cn : String} {Y : Nat → Prop} {arr cap k j : Nat} {raw : Nat → Option Nat} (hca : (Cn, "java/lang/Object") ∈ caL) (h1 : ws[j]? = some (arr, aR g 4 cap raw)) (hck : cap ≤ k) (hk : k ≤ 21) (hfy : ∀ i, i < cap → ∀ y, raw i = some y → Y y) (sz : Nat) : Met l yJ7_copyOf_6403c (WS yJ7_copyOf_6403c cJ7_copyOf_6403c 4 (some (.array (.object "java/lang/Object")))) rm_copyOf3 (PreL g ws sz Cn Y [.ref arr, .int (nI k), .ref (g.2.1 6)]) (PoLr g (fun ws2 q => ws2 = ws ++ [(q, aR g 4 k (va_cpy raw (fun _ => none) 0 0 cap))] ∧ q = q) (va_A ws sz)) 1 21 (va_A ws sz) := by
  refine k_met (by decide) (Nat.le_of_ble_eq_true rfl) fun p e s m below meth c C hAB hAf hel => ?_
  refine j_sub [0, 1, 2] rfl ?_
  have hsl : 0 + k ≤ rm_copyOf3.slots := by show 0 + k ≤ 21; omega
  have hsl2 : 0 + k ≤ 21 := by omega
  refine j_aload_n C 2 rfl rfl dJ7_copyOf_6403c_0 ?_
  refine k_ldcM C mw_419 dJ7_copyOf_6403c_1 ?_
  refine k_acmp (tgt := 13) C (by decide) rfl dJ7_copyOf_6403c_3 ?_
  refine j_iload_n C 1 rfl rfl dJ7_copyOf_6403c_6 ?_
  refine k_newq C hAf mw_421 (nI_pos (by omega)) (nI_clamp (by omega)) (by omega) (Nat.le_of_ble_eq_true rfl) hsl dJ7_copyOf_6403c_7 (fun q => ?_)
  refine j_goto (tgt := 24) C (by decide) dJ7_copyOf_6403c_10 ?_
  refine j_astore_n (L' := [(3, .ref q), (0, .ref arr), (1, .int (nI k)), (2, .ref (g.2.1 6))]) C rfl (by decide) rfl dJ7_copyOf_6403c_24 ?_
  refine j_aload_n C 1 rfl rfl dJ7_copyOf_6403c_25 ?_
  refine j_iconst (v := 0) C (by decide) dJ7_copyOf_6403c_26 ?_
  refine j_aload_n C 0 rfl rfl dJ7_copyOf_6403c_27 ?_
  refine j_iconst (v := 0) C (by decide) dJ7_copyOf_6403c_28 ?_
  refine j_aload_n C 1 rfl rfl dJ7_copyOf_6403c_29 ?_
  refine k_alen C (q0 := j) (by rw [List.getElem?_append_left (List.getElem?_eq_some_iff.mp h1).1]; exact h1) dJ7_copyOf_6403c_30 ?_
  refine j_iload_n C 2 rfl rfl dJ7_copyOf_6403c_31 ?_
  refine j_minI C mw_422 mw_423 mw_78 mw_424 (Nat.le_of_ble_eq_true rfl) (Nat.le_of_ble_eq_true rfl) (Nat.le_of_ble_eq_true rfl) hsl dJ7_copyOf_6403c_32 ?_
  rw [if_neg (show ¬ nI k < nI cap from nI_nlt hck (by omega))]
  refine k_copy C hel hca (q0 := j) (q1 := ws.length) (a := q) (n1 := k) (h := fun _ => none) mw_425 mw_427 mw_426 mw_80 (by rw [List.getElem?_append_left (List.getElem?_eq_some_iff.mp h1).1]; exact h1) (by simp) (by decide) (by decide) (nI_pos (by omega)) (by rw [nI_clamp (by omega), sb_cl0]; omega) (by rw [nI_clamp (by omega), sb_cl0]; omega) (fun i hi y hy => by rw [nI_clamp (by omega)] at hi; rw [sb_cl0, Nat.zero_add] at hy; exact hfy i hi y hy) (Nat.le_of_ble_eq_true rfl) (by decide) dJ7_copyOf_6403c_35 ?_
  rw [nI_clamp (show cap < 2 ^ 31 by omega), sb_cl0]
  refine j_aload_n C 0 rfl rfl dJ7_copyOf_6403c_38 ?_
  exact k_rret C rfl (Or.inr ⟨_, rfl⟩) ⟨by simp, rfl⟩ (Nat.le_of_ble_eq_true rfl) hsl2 dJ7_copyOf_6403c_39
abbrev rm_copyOf2 : Room := { frames := 2, cells := 1, slots := 21, locals := 63 }
set_option maxRecDepth 100000 in
set_option maxHeartbeats 4000000 in
theorem c_copyOf2 {l : Launch} {g : Gc} {ws : va_W} {Cn : String} {Y : Nat → Prop} {arr cap k j : Nat} {raw : Nat → Option Nat} (hca : (Cn, "java/lang/Object") ∈ caL) (h1 : ws[j]? = some (arr, aR g 4 cap raw)) (hck : cap ≤ k) (hk : k ≤ 21) (hfy : ∀ i, i < cap → ∀ y, raw i = some y → Y y) (sz : Nat) : Met l yJ7_copyOf_1904c (WS yJ7_copyOf_1904c cJ7_copyOf_1904c 2 (some (.array (.object "java/lang/Object")))) rm_copyOf2 (PreL g ws sz Cn Y [.ref arr, .int (nI k)]) (PoLr g (fun ws2 q => ws2 = ws ++ [(q, aR g 4 k (va_cpy raw (fun _ => none) 0 0 cap))]) (va_A ws sz)) 1 21 (va_A ws sz) := by
  refine k_met (by decide) (Nat.le_of_ble_eq_true rfl) fun p e s m below meth c C hAB hAf hel => ?_
  refine j_sub [0, 1] rfl ?_
  refine j_aload_n C 0 rfl rfl dJ7_copyOf_1904c_0 ?_
  refine j_iload_n C 1 rfl rfl dJ7_copyOf_1904c_1 ?_
  refine j_aload_n C 0 rfl rfl dJ7_copyOf_1904c_2 ?_
  refine k_getC C (q0 := j) mw_400 mw_1332 mw_401 mw_415 h1 (Nat.le_of_ble_eq_true rfl) (Nat.le_of_ble_eq_true rfl) dJ7_copyOf_1904c_3 ?_
  refine k_callSr (As := [.ref arr, .int (nI k), .ref (g.2.1 6)]) (rest := []) C hAB hAf hel (c_copyOf3 hca h1 hck hk hfy) (va_cwS 3 C.ts (good_S mw_416 mw_417 mw_79 mw_418) rfl rfl rfl (by decide +kernel) ⟨Nat.le_of_ble_eq_true rfl, Nat.le_of_ble_eq_true rfl⟩) rfl rfl (Nat.le_of_ble_eq_true rfl) dJ7_copyOf_1904c_6 (⟨Nat.le_of_ble_eq_true rfl, Nat.le_of_ble_eq_true rfl⟩) (fun ws2 q hok => ?_)
  obtain ⟨rfl, -⟩ := hok
  exact k_rret C rfl (Or.inr ⟨_, rfl⟩) rfl (Nat.le_of_ble_eq_true rfl) (Nat.le_of_ble_eq_true rfl) dJ7_copyOf_1904c_9
/-- a list of n in the world: its object first, its array somewhere behind -/
def LI (g : Gc) (ws : va_W) (lo : Nat) (m : Int32) (arr n cap : Nat) (raw : Nat → Option Nat) : Prop := ws[0]? = some (lo, .inr (0, [.int m, .ref arr, .int (nI n)])) ∧ ∃ j, 0 < j ∧ ws[j]? = some (arr, aR g 4 cap raw)
/-- behind growing: room for one more, the same elements -/
def LG (g : Gc) (lo : Nat) (m : Int32) (n : Nat) (raw : Nat → Option Nat) (ws : va_W) (q : Nat) : Prop := ∃ k raw2, LI g ws lo m q n k raw2 ∧ n < k ∧ k ≤ 21 ∧ ∀ i, i < n → raw2 i = raw i
theorem grow_len : ∀ n : Nat, n < 15 → 0 < n → ∃ v : Nat, n < v ∧ v ≤ 21 ∧ nI n + (if nI (n + 1) - nI n < nI n >>> ((1 : Int32) &&& 31) then nI n >>> ((1 : Int32) &&& 31) else nI (n + 1) - nI n) = nI v := by
  intro n h1 h2
  have h : ∀ n, n < 15 → 0 < n → (fun v => n < v ∧ v ≤ 21 ∧ nI n + (if nI (n + 1) - nI n < nI n >>> ((1 : Int32) &&& 31) then nI n >>> ((1 : Int32) &&& 31) else nI (n + 1) - nI n) = nI v) (n + max 1 (n / 2)) := by decide +kernel
  exact ⟨_, h n h1 h2⟩
theorem grow_ok {g : Gc} {ws : va_W} {lo q n v : Nat} {m : Int32} {arr : Nat} {raw : Nat → Option Nat} (h0 : ws[0]? = some (lo, .inr (0, [.int m, .ref arr, .int (nI n)]))) (hv1 : n < v) (hv2 : v ≤ 21) :
    LG g lo m n raw ((ws ++ [(q, aR g 4 v (va_cpy raw (fun _ => none) 0 0 n))]).set 0 (lo, .inr (0, [Value.int m, .ref arr, .int (nI n)].set 1 (.ref q)))) q := by
  have hl : 0 < ws.length := (List.getElem?_eq_some_iff.mp h0).1
  refine ⟨v, va_cpy raw (fun _ => none) 0 0 n, ⟨?_, ws.length, hl, ?_⟩, hv1, hv2, fun i hi => ?_⟩
  · rw [List.getElem?_set_self (by simp)]; rfl
  · rw [List.getElem?_set_ne (by omega)]; simp
  · rw [pk_cpy_in (Nat.zero_le _) (by omega)]; simp
abbrev rm_growI : Room := { frames := 3, cells := 1, slots := 21, locals := 84 }
set_option maxRecDepth 100000 in
set_option maxHeartbeats 4000000 in
theorem c_growI {l : Launch} {g : Gc} {ws : va_W} {Cn : String} {Y : Nat → Prop} {lo arr n j : Nat} {m : Int32} {raw : Nat → Option Nat} (hca : (Cn, "java/lang/Object") ∈ caL) (h0 : ws[0]? = some (lo, .inr (0, [.int m, .ref arr, .int (nI n)]))) (h1 : ws[j]? = some (arr, aR g 4 n raw)) (h00 : 0 < n) (hn : n < 15) (hfy : ∀ i, i < n → ∀ y, raw i = some y → Y y) (sz : Nat) : Met l yJx4a65c_grow_92f84 (WS yJx4a65c_grow_92f84 cJx4a65c_grow_92f84 4 (some (.array (.object "java/lang/Object")))) rm_growI (PreL g ws sz Cn Y [.ref lo, .int (nI (n + 1))]) (PoLr g (LG g lo m n raw) (va_A ws sz)) 1 21 (va_A ws sz) := by
  refine k_met (by decide) (Nat.le_of_ble_eq_true rfl) fun p e s m below meth c C hAB hAf hel => ?_
  refine j_sub [0, 1] rfl ?_
  obtain ⟨v, hv1, hv2, hv⟩ := grow_len n hn h00
  refine j_aload_n C 0 rfl rfl dJx4a65c_grow_92f84_0 ?_
  refine k_get C in_Jx4a65c (q0 := 0) h0 rfl 1 (by decide) mw_112 (fun _ h => h) rfl dJx4a65c_grow_92f84_1 ?_
  refine k_alen C (q0 := j) h1 dJx4a65c_grow_92f84_4 ?_
  refine j_istore_n (L' := [(2, .int (nI n)), (0, .ref lo), (1, .int (nI (n + 1)))]) C rfl (by decide) rfl dJx4a65c_grow_92f84_5 ?_
  refine j_iload_n C 0 rfl rfl dJx4a65c_grow_92f84_6 ?_
  refine j_if_gt (tgt := 20) C (by decide) dJx4a65c_grow_92f84_7 (fun hc => ?_) (fun hc => (hc (nI_lt (a := 0) h00 (by omega))).elim)
  refine j_iload_n C 0 rfl rfl dJx4a65c_grow_92f84_20 ?_
  refine j_iload_n C 2 rfl rfl dJx4a65c_grow_92f84_21 ?_
  refine j_iload_n C 0 rfl rfl dJx4a65c_grow_92f84_22 ?_
  refine j_isub C dJx4a65c_grow_92f84_23 ?_
  refine j_iload_n C 0 rfl rfl dJx4a65c_grow_92f84_24 ?_
  refine j_iconst (v := 1) C (by decide) dJx4a65c_grow_92f84_25 ?_
  refine j_ishr C dJx4a65c_grow_92f84_26 ?_
  refine k_callSi (As := [.int (nI n), .int ((nI (n + 1)) - (nI n)), .int ((nI n) >>> ((1 : Int32) &&& 31))]) (rest := []) C hAB hAf hel (c_newLength hv (by rw [Int32.le_iff_toInt_le, nI_toInt (by omega)]; simp; omega) (by rw [Int32.lt_iff_toInt_lt, nI_toInt (by omega)]; simp; omega)) (va_cwS 3 C.ts (good_S mw_387 mw_388 mw_77 mw_389) rfl rfl rfl (by decide +kernel) ⟨Nat.le_of_ble_eq_true rfl, Nat.le_of_ble_eq_true rfl⟩) rfl rfl (Nat.le_of_ble_eq_true rfl) dJx4a65c_grow_92f84_27 (⟨Nat.le_of_ble_eq_true rfl, Nat.le_of_ble_eq_true rfl⟩) (fun r ws2 hok => ?_)
  obtain ⟨rfl, rfl⟩ := hok
  refine j_istore_n (L' := [(3, .int (nI v)), (2, .int (nI n)), (0, .ref lo), (1, .int (nI (n + 1)))]) C rfl (by decide) rfl dJx4a65c_grow_92f84_30 ?_
  refine j_aload_n C 2 rfl rfl dJx4a65c_grow_92f84_31 ?_
  refine j_aload_n C 2 rfl rfl dJx4a65c_grow_92f84_32 ?_
  refine k_get C in_Jx4a65c (q0 := 0) h0 rfl 1 (by decide) mw_112 (fun _ h => h) rfl dJx4a65c_grow_92f84_33 ?_
  refine j_iload_n C 0 rfl rfl dJx4a65c_grow_92f84_36 ?_
  refine k_callSr (As := [.ref arr, .int (nI v)]) (rest := [.ref lo]) C hAB hAf hel (c_copyOf2 hca h1 (Nat.le_of_lt hv1) hv2 hfy) (va_cwS 2 C.ts (good_S mw_397 mw_398 mw_79 mw_399) rfl rfl rfl (by decide +kernel) ⟨Nat.le_of_ble_eq_true rfl, Nat.le_of_ble_eq_true rfl⟩) rfl rfl (Nat.le_of_ble_eq_true rfl) dJx4a65c_grow_92f84_37 (⟨Nat.le_of_ble_eq_true rfl, Nat.le_of_ble_eq_true rfl⟩) (fun ws2 q hok => ?_)
  subst hok
  refine j_dup_x1 C rfl rfl dJx4a65c_grow_92f84_40 ?_
  refine k_put C in_Jx4a65c tyJx4a65c_ok nmJx4a65c (q0 := 0) (by rw [List.getElem?_append_left (List.getElem?_eq_some_iff.mp h0).1]; exact h0) rfl 1 (by decide) mw_112 (fun _ h => h) rfl (ty := .array (.object "java/lang/Object")) (tyJx4a65c_ok 1 (by decide)) rfl rfl (Nat.le_of_ble_eq_true rfl) dJx4a65c_grow_92f84_41 ?_
  exact k_rret C rfl (Or.inr ⟨_, rfl⟩) (grow_ok h0 hv1 hv2) (Nat.le_of_ble_eq_true rfl) (Nat.le_of_ble_eq_true rfl) dJx4a65c_grow_92f84_44
theorem grow_ok0 {g : Gc} {ws : va_W} {lo q : Nat} {m : Int32} {arr : Nat} {raw : Nat → Option Nat} (h0 : ws[0]? = some (lo, .inr (0, [.int m, .ref arr, .int (nI 0)]))) :
    LG g lo m 0 raw ((ws ++ [(q, aR g 4 10 (fun _ => none))]).set 0 (lo, .inr (0, [Value.int m, .ref arr, .int (nI 0)].set 1 (.ref q)))) q := by
  have hl : 0 < ws.length := (List.getElem?_eq_some_iff.mp h0).1
  refine ⟨10, fun _ => none, ⟨?_, ws.length, hl, ?_⟩, by decide, by decide, fun i hi => absurd hi (Nat.not_lt_zero i)⟩
  · rw [List.getElem?_set_self (by simp)]; rfl
  · rw [List.getElem?_set_ne (by omega)]; simp
set_option maxRecDepth 100000 in
set_option maxHeartbeats 4000000 in
theorem c_growI0 {l : Launch} {g : Gc} {ws : va_W} {Cn : String} {Y : Nat → Prop} {lo : Nat} {m : Int32} {raw : Nat → Option Nat} (h0 : ws[0]? = some (lo, .inr (0, [.int m, .ref g.2.2.1, .int (nI 0)]))) (sz : Nat) : Met l yJx4a65c_grow_92f84 (WS yJx4a65c_grow_92f84 cJx4a65c_grow_92f84 4 (some (.array (.object "java/lang/Object")))) rm_growI (PreL g ws sz Cn Y [.ref lo, .int (nI (0 + 1))]) (PoLr g (LG g lo m 0 raw) (va_A ws sz)) 1 21 (va_A ws sz) := by
  refine k_met (by decide) (Nat.le_of_ble_eq_true rfl) fun p e s m below meth c C hAB hAf hel => ?_
  refine j_sub [0, 1] rfl ?_
  have hsl : 0 + 10 ≤ rm_growI.slots := by decide
  refine j_aload_n C 0 rfl rfl dJx4a65c_grow_92f84_0 ?_
  refine k_get C in_Jx4a65c (q0 := 0) h0 rfl 1 (by decide) mw_112 (fun _ h => h) rfl dJx4a65c_grow_92f84_1 ?_
  refine k_alen0 C hAB dJx4a65c_grow_92f84_4 ?_
  refine j_istore_n (L' := [(2, .int (nI 0)), (0, .ref lo), (1, .int (nI (0 + 1)))]) C rfl (by decide) rfl dJx4a65c_grow_92f84_5 ?_
  refine j_iload_n C 0 rfl rfl dJx4a65c_grow_92f84_6 ?_
  refine j_if_gt (tgt := 20) C (by decide) dJx4a65c_grow_92f84_7 (fun hc => ((absurd hc (by decide) : False)).elim) (fun hc => ?_)
  refine j_aload_n C 1 rfl rfl dJx4a65c_grow_92f84_10 ?_
  refine k_get C in_Jx4a65c (q0 := 0) h0 rfl 1 (by decide) mw_112 (fun _ h => h) rfl dJx4a65c_grow_92f84_11 ?_
  refine k_gets C hAB mw_110 dJx4a65c_grow_92f84_14 ?_
  refine k_acmpE (tgt := 45) C (by decide) dJx4a65c_grow_92f84_17 (fun _ => ?_) (fun hc => absurd rfl hc)
  refine j_aload_n C 1 rfl rfl dJx4a65c_grow_92f84_45 ?_
  refine j_bipush (v := 10) C (by decide) dJx4a65c_grow_92f84_46 ?_
  refine j_iload_n C 2 rfl rfl dJx4a65c_grow_92f84_48 ?_
  refine j_maxI C mw_428 mw_391 mw_78 mw_392 (Nat.le_of_ble_eq_true rfl) (Nat.le_of_ble_eq_true rfl) (Nat.le_of_ble_eq_true rfl) (Nat.le_of_ble_eq_true rfl) dJx4a65c_grow_92f84_49 ?_
  rw [show (if (10 : Int32) < nI (0 + 1) then nI (0 + 1) else (10 : Int32)) = nI 10 from by decide]
  refine k_newq C hAf mw_429 (by decide) rfl (by decide) (Nat.le_of_ble_eq_true rfl) hsl dJx4a65c_grow_92f84_52 (fun q => ?_)
  refine j_dup_x1 C rfl rfl dJx4a65c_grow_92f84_55 ?_
  refine k_put C in_Jx4a65c tyJx4a65c_ok nmJx4a65c (q0 := 0) (by rw [List.getElem?_append_left (List.getElem?_eq_some_iff.mp h0).1]; exact h0) rfl 1 (by decide) mw_112 (fun _ h => h) rfl (ty := .array (.object "java/lang/Object")) (tyJx4a65c_ok 1 (by decide)) rfl rfl (Nat.le_of_ble_eq_true rfl) dJx4a65c_grow_92f84_56 ?_
  exact k_rret C rfl (Or.inr ⟨_, rfl⟩) (grow_ok0 h0) (Nat.le_of_ble_eq_true rfl) (Nat.le_of_ble_eq_true rfl) dJx4a65c_grow_92f84_59
/-- a list of n that may take one more: with an array of its own, or the empty one -/
def LSt (g : Gc) (ws : va_W) (lo : Nat) (m : Int32) (arr n : Nat) (raw : Nat → Option Nat) (Y : Nat → Prop) : Prop := ws[0]? = some (lo, .inr (0, [.int m, .ref arr, .int (nI n)])) ∧ n < 15 ∧ (∀ i, i < n → ∀ y, raw i = some y → Y y) ∧
  ((arr = g.2.2.1 ∧ n = 0) ∨ ∃ j cap, 0 < j ∧ ws[j]? = some (arr, aR g 4 cap raw) ∧ n ≤ cap ∧ cap ≤ 21 ∧ 0 < cap)
/-- it is full -/
def LF (g : Gc) (ws : va_W) (lo : Nat) (m : Int32) (arr n : Nat) (raw : Nat → Option Nat) (Y : Nat → Prop) : Prop := ws[0]? = some (lo, .inr (0, [.int m, .ref arr, .int (nI n)])) ∧ n < 15 ∧ (∀ i, i < n → ∀ y, raw i = some y → Y y) ∧
  ((arr = g.2.2.1 ∧ n = 0) ∨ ∃ j, 0 < j ∧ ws[j]? = some (arr, aR g 4 n raw) ∧ 0 < n)
abbrev rm_grow : Room := { frames := 4, cells := 1, slots := 21, locals := 107 }
set_option maxRecDepth 100000 in
set_option maxHeartbeats 4000000 in
theorem c_grow {l : Launch} {g : Gc} {ws : va_W} {Cn : String} {Y : Nat → Prop} {lo arr n : Nat} {m : Int32} {raw : Nat → Option Nat} (hca : (Cn, "java/lang/Object") ∈ caL) (hF : LF g ws lo m arr n raw Y) (sz : Nat) : Met l yJx4a65c_grow_d5877 (WS yJx4a65c_grow_d5877 cJx4a65c_grow_d5877 1 (some (.array (.object "java/lang/Object")))) rm_grow (PreL g ws sz Cn Y [.ref lo]) (PoLr g (LG g lo m n raw) (va_A ws sz)) 1 21 (va_A ws sz) := by
  refine k_met (by decide) (Nat.le_of_ble_eq_true rfl) fun p e s m9 below meth c C hAB hAf hel => ?_
  refine j_sub [0] rfl ?_
  obtain ⟨h0, hn, hfy, hc⟩ := hF
  have hM : ∀ sz, Met l yJx4a65c_grow_92f84 (WS yJx4a65c_grow_92f84 cJx4a65c_grow_92f84 4 (some (.array (.object "java/lang/Object")))) rm_growI (PreL g ws sz Cn Y [.ref lo, .int (nI (n + 1))]) (PoLr g (LG g lo m n raw) (va_A ws sz)) 1 21 (va_A ws sz) := by
    rcases hc with ⟨rfl, rfl⟩ | ⟨j, hj, h1, hp⟩
    · exact c_growI0 h0
    · exact c_growI hca h0 h1 hp hn hfy
  refine j_aload_n C 0 rfl rfl dJx4a65c_grow_d5877_0 ?_
  refine j_aload_n C 0 rfl rfl dJx4a65c_grow_d5877_1 ?_
  refine k_get C in_Jx4a65c (q0 := 0) h0 rfl 2 (by decide) mw_113 (fun _ h => h) rfl dJx4a65c_grow_d5877_2 ?_
  refine j_iconst (v := 1) C (by decide) dJx4a65c_grow_d5877_5 ?_
  refine j_iadd C dJx4a65c_grow_d5877_6 ?_
  rw [nI_1]
  refine k_callVr (As := [.int (nI (n + 1))]) (rest := []) (qc := (RJx4a65c, TJx4a65c, 3)) C hAB hAf hel (q0 := 0) (hM) (cwV 1 C.ts (good_V mw_383 mw_385 mw_2 mw_67 mw_386) rfl rfl rfl (by decide +kernel) ⟨Nat.le_of_ble_eq_true rfl, Nat.le_of_ble_eq_true rfl⟩) h0 rfl rfl rfl (Nat.le_of_ble_eq_true rfl) dJx4a65c_grow_d5877_7 (⟨Nat.le_of_ble_eq_true rfl, Nat.le_of_ble_eq_true rfl⟩) (fun ws2 q hok => ?_)
  exact k_rret C rfl (Or.inr ⟨_, rfl⟩) hok (Nat.le_of_ble_eq_true rfl) (Nat.le_of_ble_eq_true rfl) dJx4a65c_grow_d5877_10
/-- behind an add: one more, the elements before it the same -/
def LA (g : Gc) (lo : Nat) (m : Int32) (n : Nat) (raw : Nat → Option Nat) (v : Nat) (ws : va_W) : Prop := ∃ q k raw2, LI g ws lo m q (n + 1) k raw2 ∧ n < k ∧ k ≤ 21 ∧ (∀ i, i < n → raw2 i = raw i) ∧ raw2 n = some v
theorem add_ok {g : Gc} {ws : va_W} {lo q n k j v : Nat} {m : Int32} {raw raw2 : Nat → Option Nat} (h0 : ws[0]? = some (lo, .inr (0, [.int m, .ref q, .int (nI n)]))) (hj : 0 < j) (h1 : ws[j]? = some (q, aR g 4 k raw2)) (hk : n < k) (hk2 : k ≤ 21) (he : ∀ i, i < n → raw2 i = raw i) :
    LA g lo m n raw v ((ws.set j (q, aR g 4 k (va_up raw2 (nI n).toNatClampNeg (some v)))).set 0 (lo, .inr (0, [Value.int m, .ref q, .int (nI n)].set 2 (.int (nI (n + 1)))))) := by
  have hl : 0 < ws.length := (List.getElem?_eq_some_iff.mp h0).1
  have hlj : j < ws.length := (List.getElem?_eq_some_iff.mp h1).1
  rw [nI_clamp (show n < 2 ^ 31 by omega)]
  refine ⟨q, k, va_up raw2 n (some v), ⟨?_, j, hj, ?_⟩, hk, hk2, fun i hi => ?_, va_up_self _ _ _⟩
  · rw [List.getElem?_set_self (by simpa using hl)]; rfl
  · rw [List.getElem?_set_ne (by omega), List.getElem?_set_self hlj]
  · rw [va_up_ne _ _ (by omega)]; exact he i hi
abbrev rm_add3 : Room := { frames := 5, cells := 1, slots := 21, locals := 127 }
set_option maxRecDepth 100000 in
set_option maxHeartbeats 4000000 in
theorem c_add3r {l : Launch} {g : Gc} {ws : va_W} {Cn : String} {Y : Nat → Prop} {lo arr n k j v : Nat} {m : Int32} {raw raw2 : Nat → Option Nat} (hca : (Cn, "java/lang/Object") ∈ caL) (hy : Y v) (h0 : ws[0]? = some (lo, .inr (0, [.int m, .ref arr, .int (nI n)]))) (hj : 0 < j) (h1 : ws[j]? = some (arr, aR g 4 k raw2)) (hk : n < k) (hk2 : k ≤ 21) (hE : ∀ i, i < n → raw2 i = raw i) (sz : Nat) : Met l yJx4a65c_add_72be8 (WS yJx4a65c_add_72be8 cJx4a65c_add_72be8 4 none) rm_add3 (PreL g ws sz Cn Y [.ref lo, .ref v, .ref arr, .int (nI n)]) (PoLv g (LA g lo m n raw v) (va_A ws sz)) 1 21 (va_A ws sz) := by
  refine k_met (by decide) (Nat.le_of_ble_eq_true rfl) fun p e s m9 below meth c C hAB hAf hel => ?_
  refine j_sub [0, 1, 2, 3] rfl ?_
  refine j_iload_n C 3 rfl rfl dJx4a65c_add_72be8_0 ?_
  refine j_aload_n C 2 rfl rfl dJx4a65c_add_72be8_1 ?_
  refine k_alen C (q0 := j) h1 dJx4a65c_add_72be8_2 ?_
  refine j_icmp_ne (tgt := 11) C (by decide) dJx4a65c_add_72be8_3 (fun hc => ?_) (fun hc => absurd ((nI_eq (by omega) (by omega)).mp hc) (Nat.ne_of_lt hk))
  refine j_aload_n C 2 rfl rfl dJx4a65c_add_72be8_11 ?_
  refine j_iload_n C 3 rfl rfl dJx4a65c_add_72be8_12 ?_
  refine j_aload_n C 1 rfl rfl dJx4a65c_add_72be8_13 ?_
  refine k_aastO C hel hca (q0 := j) hy h1 (vp_in_nI hk (by omega)) dJx4a65c_add_72be8_14 ?_
  refine j_aload_n C 0 rfl rfl dJx4a65c_add_72be8_15 ?_
  refine j_iload_n C 3 rfl rfl dJx4a65c_add_72be8_16 ?_
  refine j_iconst (v := 1) C (by decide) dJx4a65c_add_72be8_17 ?_
  refine j_iadd C dJx4a65c_add_72be8_18 ?_
  rw [nI_1]
  refine k_put C in_Jx4a65c tyJx4a65c_ok nmJx4a65c (q0 := 0) (by rw [List.getElem?_set_ne (by omega)]; exact h0) rfl 2 (by decide) mw_113 (fun _ h => h) rfl (ty := .int) (tyJx4a65c_ok 2 (by decide)) rfl rfl (Nat.le_of_ble_eq_true rfl) dJx4a65c_add_72be8_19 ?_
  exact k_vret C rfl (add_ok h0 hj h1 hk hk2 hE) (Nat.le_of_ble_eq_true rfl) (Nat.le_of_ble_eq_true rfl) dJx4a65c_add_72be8_22
set_option maxRecDepth 100000 in
set_option maxHeartbeats 4000000 in
theorem c_add3f {l : Launch} {g : Gc} {ws : va_W} {Cn : String} {Y : Nat → Prop} {lo arr n v : Nat} {m : Int32} {raw : Nat → Option Nat} (hca : (Cn, "java/lang/Object") ∈ caL) (hy : Y v) (hF : LF g ws lo m arr n raw Y) (sz : Nat) : Met l yJx4a65c_add_72be8 (WS yJx4a65c_add_72be8 cJx4a65c_add_72be8 4 none) rm_add3 (PreL g ws sz Cn Y [.ref lo, .ref v, .ref arr, .int (nI n)]) (PoLv g (LA g lo m n raw v) (va_A ws sz)) 1 21 (va_A ws sz) := by
  refine k_met (by decide) (Nat.le_of_ble_eq_true rfl) fun p e s m9 below meth c C hAB hAf hel => ?_
  refine j_sub [0, 1, 2, 3] rfl ?_
  obtain ⟨h00, hn, hfy, hc0⟩ := hF
  refine j_iload_n C 3 rfl rfl dJx4a65c_add_72be8_0 ?_
  refine j_aload_n C 2 rfl rfl dJx4a65c_add_72be8_1 ?_
  have hlen : ∀ {st9 : List Value}, JG p l e rm_add3 s m9 #[.ref lo, .ref v, .ref arr, .int (nI n)] below meth c 4 (va_A ws sz) (MQ below (PoLv g (LA g lo m n raw v) (va_A ws sz)) #[.ref lo, .ref v, .ref arr, .int (nI n)] s 1 21 (va_A ws sz)) (VW g (va_A ws sz) ws) 0 0 [(0, .ref lo), (1, .ref v), (2, .ref arr), (3, .int (nI n))] 3 (.int (nI n) :: st9) → JG p l e rm_add3 s m9 #[.ref lo, .ref v, .ref arr, .int (nI n)] below meth c 4 (va_A ws sz) (MQ below (PoLv g (LA g lo m n raw v) (va_A ws sz)) #[.ref lo, .ref v, .ref arr, .int (nI n)] s 1 21 (va_A ws sz)) (VW g (va_A ws sz) ws) 0 0 [(0, .ref lo), (1, .ref v), (2, .ref arr), (3, .int (nI n))] 2 (.ref arr :: st9) := by
    intro st9 kk
    rcases hc0 with ⟨rfl, rfl⟩ | ⟨j, hj, h1, hp⟩
    · exact k_alen0 C hAB dJx4a65c_add_72be8_2 kk
    · exact k_alen C h1 dJx4a65c_add_72be8_2 kk
  refine hlen ?_
  refine j_icmp_ne (tgt := 11) C (by decide) dJx4a65c_add_72be8_3 (fun hc => absurd rfl hc) (fun _ => ?_)
  refine j_aload_n C 0 rfl rfl dJx4a65c_add_72be8_6 ?_
  refine k_callVr (As := []) (rest := []) (qc := (RJx4a65c, TJx4a65c, 3)) C hAB hAf hel (q0 := 0) (c_grow hca ⟨h00, hn, hfy, hc0⟩) (cwV 0 C.ts (good_V mw_379 mw_381 mw_1 mw_67 mw_382) rfl rfl rfl (by decide +kernel) ⟨Nat.le_of_ble_eq_true rfl, Nat.le_of_ble_eq_true rfl⟩) h00 rfl rfl rfl (Nat.le_of_ble_eq_true rfl) dJx4a65c_add_72be8_7 (⟨Nat.le_of_ble_eq_true rfl, Nat.le_of_ble_eq_true rfl⟩) (fun ws2 q hok => ?_)
  obtain ⟨k, raw2, ⟨h0, j, hj, h1⟩, hk, hk2, hE⟩ := hok
  refine j_astore_n (L' := [(2, .ref q), (0, .ref lo), (1, .ref v), (3, .int (nI n))]) C rfl (by decide) rfl dJx4a65c_add_72be8_10 ?_
  refine j_aload_n C 0 rfl rfl dJx4a65c_add_72be8_11 ?_
  refine j_iload_n C 3 rfl rfl dJx4a65c_add_72be8_12 ?_
  refine j_aload_n C 2 rfl rfl dJx4a65c_add_72be8_13 ?_
  refine k_aastO C hel hca (q0 := j) hy h1 (vp_in_nI hk (by omega)) dJx4a65c_add_72be8_14 ?_
  refine j_aload_n C 1 rfl rfl dJx4a65c_add_72be8_15 ?_
  refine j_iload_n C 3 rfl rfl dJx4a65c_add_72be8_16 ?_
  refine j_iconst (v := 1) C (by decide) dJx4a65c_add_72be8_17 ?_
  refine j_iadd C dJx4a65c_add_72be8_18 ?_
  rw [nI_1]
  refine k_put C in_Jx4a65c tyJx4a65c_ok nmJx4a65c (q0 := 0) (by rw [List.getElem?_set_ne (by omega)]; exact h0) rfl 2 (by decide) mw_113 (fun _ h => h) rfl (ty := .int) (tyJx4a65c_ok 2 (by decide)) rfl rfl (Nat.le_of_ble_eq_true rfl) dJx4a65c_add_72be8_19 ?_
  exact k_vret C rfl (add_ok h0 hj h1 hk hk2 hE) (Nat.le_of_ble_eq_true rfl) (Nat.le_of_ble_eq_true rfl) dJx4a65c_add_72be8_22
theorem c_add3 {l : Launch} {g : Gc} {ws : va_W} {Cn : String} {Y : Nat → Prop} {lo arr n v : Nat} {m : Int32} {raw : Nat → Option Nat} (hca : (Cn, "java/lang/Object") ∈ caL) (hy : Y v) (hS : LSt g ws lo m arr n raw Y) (sz : Nat) : Met l yJx4a65c_add_72be8 (WS yJx4a65c_add_72be8 cJx4a65c_add_72be8 4 none) rm_add3 (PreL g ws sz Cn Y [.ref lo, .ref v, .ref arr, .int (nI n)]) (PoLv g (LA g lo m n raw v) (va_A ws sz)) 1 21 (va_A ws sz) := by
  obtain ⟨h0, hn, hfy, hc⟩ := hS
  rcases hc with hc | ⟨j, cap, hj, h1, hnc, hc21, hp⟩
  · exact c_add3f hca hy ⟨h0, hn, hfy, Or.inl hc⟩ sz
  · rcases Nat.lt_or_ge n cap with q | q
    · exact c_add3r hca hy h0 hj h1 q hc21 (fun _ _ => rfl) sz
    · have e : cap = n := by omega
      subst e
      exact c_add3f hca hy ⟨h0, hn, hfy, Or.inr ⟨j, hj, h1, hp⟩⟩ sz
theorem LSt_mod {g : Gc} {ws : va_W} {lo arr n : Nat} {m m2 : Int32} {raw : Nat → Option Nat} {Y : Nat → Prop} (h : LSt g ws lo m arr n raw Y) : LSt g (ws.set 0 (lo, .inr (0, [Value.int m, .ref arr, .int (nI n)].set 0 (.int m2)))) lo m2 arr n raw Y := by
  obtain ⟨h0, hn, hfy, hc⟩ := h
  have hl : 0 < ws.length := (List.getElem?_eq_some_iff.mp h0).1
  refine ⟨by rw [List.getElem?_set_self hl]; rfl, hn, hfy, ?_⟩
  rcases hc with hc | ⟨j, cap, hj, h1, hnc⟩
  · exact Or.inl hc
  · exact Or.inr ⟨j, cap, hj, by rw [List.getElem?_set_ne (by omega)]; exact h1, hnc⟩
abbrev rm_ladd : Room := { frames := 6, cells := 1, slots := 21, locals := 150 }
set_option maxRecDepth 100000 in
set_option maxHeartbeats 4000000 in
theorem c_ladd {l : Launch} {g : Gc} {ws : va_W} {Cn : String} {Y : Nat → Prop} {lo arr n v : Nat} {m : Int32} {raw : Nat → Option Nat} (hca : (Cn, "java/lang/Object") ∈ caL) (hy : Y v) (hS : LSt g ws lo m arr n raw Y) (sz : Nat) : Met l yJx4a65c_add_9ea2d (WS yJx4a65c_add_9ea2d cJx4a65c_add_9ea2d 2 (some .boolean)) rm_ladd (PreL g ws sz Cn Y [.ref lo, .ref v]) (PoLi g (fun r ws2 => r = 1 ∧ LA g lo (m + 1) n raw v ws2) (va_A ws sz)) 1 21 (va_A ws sz) := by
  refine k_met (by decide) (Nat.le_of_ble_eq_true rfl) fun p e s m9 below meth c C hAB hAf hel => ?_
  refine j_sub [0, 1] rfl ?_
  refine j_aload_n C 0 rfl rfl dJx4a65c_add_9ea2d_0 ?_
  refine j_dup C rfl dJx4a65c_add_9ea2d_1 ?_
  refine k_get C in_Jx4a65c (q0 := 0) hS.1 rfl 0 (by decide) mw_115 (fun x9 h9 => u_same (C.ts _ mw_116) x9 h9) rfl dJx4a65c_add_9ea2d_2 ?_
  refine j_iconst (v := 1) C (by decide) dJx4a65c_add_9ea2d_5 ?_
  refine j_iadd C dJx4a65c_add_9ea2d_6 ?_
  refine k_put C in_Jx4a65c tyJx4a65c_ok nmJx4a65c (q0 := 0) hS.1 rfl 0 (by decide) mw_115 (fun x9 h9 => u_same (C.ts _ mw_116) x9 h9) rfl (ty := .int) (tyJx4a65c_ok 0 (by decide)) rfl rfl (Nat.le_of_ble_eq_true rfl) dJx4a65c_add_9ea2d_7 ?_
  replace hS := LSt_mod (m2 := m + 1) hS
  refine j_aload_n C 0 rfl rfl dJx4a65c_add_9ea2d_10 ?_
  refine j_aload_n C 1 rfl rfl dJx4a65c_add_9ea2d_11 ?_
  refine j_aload_n C 0 rfl rfl dJx4a65c_add_9ea2d_12 ?_
  refine k_get C in_Jx4a65c (q0 := 0) hS.1 rfl 1 (by decide) mw_112 (fun _ h => h) rfl dJx4a65c_add_9ea2d_13 ?_
  refine j_aload_n C 0 rfl rfl dJx4a65c_add_9ea2d_16 ?_
  refine k_get C in_Jx4a65c (q0 := 0) hS.1 rfl 2 (by decide) mw_113 (fun _ h => h) rfl dJx4a65c_add_9ea2d_17 ?_
  refine k_callVv (As := [.ref v, .ref arr, .int (nI n)]) (rest := []) (qc := (RJx4a65c, TJx4a65c, 3)) C hAB hAf hel (q0 := 0) (c_add3 hca hy hS) (cwV 3 C.ts (good_V mw_375 mw_377 mw_0 mw_67 mw_378) rfl rfl rfl (by decide +kernel) ⟨Nat.le_of_ble_eq_true rfl, Nat.le_of_ble_eq_true rfl⟩) hS.1 rfl rfl rfl (Nat.le_of_ble_eq_true rfl) dJx4a65c_add_9ea2d_20 (⟨Nat.le_of_ble_eq_true rfl, Nat.le_of_ble_eq_true rfl⟩) (fun ws2 hok => ?_)
  refine j_iconst (v := 1) C (by decide) dJx4a65c_add_9ea2d_23 ?_
  exact k_iret C rfl (bo_nar (Or.inr rfl)) ⟨rfl, hok⟩ (Nat.le_of_ble_eq_true rfl) (Nat.le_of_ble_eq_true rfl) dJx4a65c_add_9ea2d_24
