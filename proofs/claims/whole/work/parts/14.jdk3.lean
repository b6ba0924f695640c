section RJ3
variable {p : Program} {l : Launch} {e : Env} {R : Room} {s : State} {m : MethodId} {args : Array Value} {below : List Frame} {meth : Method} {c : Code} {Q : State → Prop}
variable {cc : ByteArray} {nL : Nat} {own : String} {ret : Option FieldType} {Ts : List Cond} {g : Gc} {A : Nat → Prop} {ws ws' : va_W} {cells slots : Nat} {L L' : List (Nat × Value)} {pc : Nat} {st : List Value} {Y : Nat → Prop} {Cn : String} {Wp : Heap → Prop}
theorem j_objInit (C : Cx p s m args meth c cc nL own ret Ts g) {index a : Nat} (hlink : Cond.methodLink own index Lib.objectInit ∈ Ts) (hinst : Cond.instanceMethod Lib.objectInit ∈ Ts) (hcode : Cond.code Lib.objectInit ⟨#[0xb1]⟩ 1 none ∈ Ts) (hfr : 1 ≤ R.frames) (hlo : (st.map fun v => v.category).sum + 12 ≤ R.locals) (hdg : decode cc pc = .ok (.invokespecial index, 3))
    (kk : JG p l e R s m args below meth c nL A Q Wp cells slots L (pc + 3) st) : JG p l e R s m args below meth c nL A Q Wp cells slots L pc (.ref a :: st) := by
  intro H locs ls hW hS hl
  refine W.objInit C.x C.b C.ow (C.ts _ hlink) (C.ts _ hinst) (C.ts _ hcode) rfl (hl.1.trans C.ml.symm) rfl hdg hfr ?_ (kk H locs ls hW hS hl)
  show 2 * 0 + _ + 12 ≤ _
  omega
theorem k_callIv (C : Cx p s m args meth c cc nL own ret Ts g) (hAB : ∀ q, A q → geB g q) (hAf : ∀ q, s.heap.size ≤ q → A q) (hel : EL s A Cn Y) {y : MethodName} {bytes : ByteArray} {maxL mc ms n index : Nat} {wd : List Cond} {rm : Room} {b : Nat} {As rest : List Value} {ok : va_W → Prop} (hM : ∀ sz, Met l y wd rm (PreL g ws sz Cn Y (.ref b :: As)) (PoLv g ok (va_A ws sz)) mc ms (va_A ws sz)) (cw : CallB R s args own index y bytes maxL none wd rm mc ms n ∧ y.name = "<init>" ∧ (Cond.instanceMethod y).before args s = true) (hn : As.length = n) (hst : st = As.reverse ++ .ref b :: rest) (hW8 : (rest.map fun v => v.category).sum ≤ 8) (hdg : decode cc pc = .ok (.invokespecial index, 3)) (hf : cells + mc ≤ R.cells ∧ slots + ms ≤ R.slots)
    (kk : ∀ ws' : va_W, ok ws' → JG p l e R s m args below meth c nL A Q (VW g A ws') (cells + mc) (slots + ms) L (pc + 3) rest) : JG p l e R s m args below meth c nL A Q (VW g A ws) cells slots L pc st := by
  intro H locs ls hW hS hl
  have hsub := vaA_sub hAf hW hS
  refine va_callv (va_runI (As := As) (rest := rest) C.fix (hM H.size) cw ⟨fb_preL, fun U hU hw => k_pre C hAB hAf hel hW hS hU hw⟩ rfl hn hl.1 hst (lv_room hW8) hdg hf) hS (fun q _ h => hsub q h) hsub (fun u t H1 locs1 ht hvm hp hB hz hk hS1 => ?_)
  obtain ⟨hP, hD⟩ := hB
  rw [ht] at hP
  exact kk u hp H1 locs1 ls ⟨hP, hD.weaken (fun _ q _ h => hsub q.1 h)⟩ hS1 hl
theorem nI_sub {a b : Nat} (h : a ≤ b) : nI b - nI a = nI (b - a) := by
  have q := nI_add a (b - a)
  rw [Nat.add_sub_cancel' h] at q
  rw [← q, Int32.add_comm, Int32.add_sub_cancel]
theorem EL.none {s : State} {A : Nat → Prop} {Cn : String} : EL s A Cn (fun _ => False) := fun _ h => h.elim
end RJ3
abbrev rm_lsize : Room := { frames := 0, cells := 0, slots := 0, locals := 0 }
set_option maxRecDepth 100000 in
set_option maxHeartbeats 4000000 in
theorem c_lsize {l : Launch} {g : Gc} {ws : va_W} {Cn : String} {Y : Nat → Prop} {lo arr n : Nat} {m : Int32} (h0 : ws[0]? = some (lo, .inr (0, [.int m, .ref arr, .int (nI n)]))) (sz : Nat) : Met l yJx4a65c_size_8abf5 (WS yJx4a65c_size_8abf5 cJx4a65c_size_8abf5 1 (some .int)) rm_lsize (PreL g ws sz Cn Y [.ref lo]) (PoLi g (fun r ws2 => r = nI n ∧ ws2 = ws) (va_A ws sz)) 0 0 (va_A ws sz) := by
  refine k_met (by decide) (Nat.le_of_ble_eq_true rfl) fun p e s m9 below meth c C hAB hAf hel => ?_
  refine j_sub [0] rfl ?_
  refine j_aload_n C 0 rfl rfl dJx4a65c_size_8abf5_0 ?_
  refine k_get C in_Jx4a65c (q0 := 0) h0 rfl 2 (by decide) mw_113 (fun _ h => h) rfl dJx4a65c_size_8abf5_1 ?_
  exact k_iret C rfl rfl ⟨rfl, rfl⟩ (Nat.le_of_ble_eq_true rfl) (Nat.le_of_ble_eq_true rfl) dJx4a65c_size_8abf5_4
abbrev rm_pchk : Room := { frames := 0, cells := 0, slots := 0, locals := 0 }
set_option maxRecDepth 100000 in
set_option maxHeartbeats 4000000 in
theorem c_pchk {l : Launch} {g : Gc} {ws : va_W} {Cn : String} {Y : Nat → Prop} {i n : Nat} (hi : i < n) (hn : n < 2 ^ 31) (sz : Nat) : Met l yJ3_checkIndex_8e157 (WS yJ3_checkIndex_8e157 cJ3_checkIndex_8e157 3 (some .int)) rm_pchk (PreL g ws sz Cn Y [.int (nI i), .int (nI n), .null]) (PoLi g (fun r ws2 => r = nI i ∧ ws2 = ws) (va_A ws sz)) 0 0 (va_A ws sz) := by
  refine k_met (by decide) (Nat.le_of_ble_eq_true rfl) fun p e s m9 below meth c C hAB hAf hel => ?_
  refine j_sub [0, 1, 2] rfl ?_
  refine j_iload_n C 0 rfl rfl dJ3_checkIndex_8e157_0 ?_
  refine j_if_lt (tgt := 9) C (by decide) dJ3_checkIndex_8e157_1 (fun hc => (nI_pos (by omega) hc).elim) (fun hc => ?_)
  refine j_iload_n C 0 rfl rfl dJ3_checkIndex_8e157_4 ?_
  refine j_iload_n C 1 rfl rfl dJ3_checkIndex_8e157_5 ?_
  refine j_icmp_lt (tgt := 16) C (by decide) dJ3_checkIndex_8e157_6 (fun hc => ?_) (fun hc => (hc (nI_lt hi hn)).elim)
  refine j_iload_n C 0 rfl rfl dJ3_checkIndex_8e157_16 ?_
  exact k_iret C rfl rfl ⟨rfl, rfl⟩ (Nat.le_of_ble_eq_true rfl) (Nat.le_of_ble_eq_true rfl) dJ3_checkIndex_8e157_17
abbrev rm_chk : Room := { frames := 1, cells := 0, slots := 0, locals := 22 }
set_option maxRecDepth 100000 in
set_option maxHeartbeats 4000000 in
theorem c_chk {l : Launch} {g : Gc} {ws : va_W} {Cn : String} {Y : Nat → Prop} {i n : Nat} (hi : i < n) (hn : n < 2 ^ 31) (sz : Nat) : Met l yJ15_checkIndex_7cf53 (WS yJ15_checkIndex_7cf53 cJ15_checkIndex_7cf53 2 (some .int)) rm_chk (PreL g ws sz Cn Y [.int (nI i), .int (nI n)]) (PoLi g (fun r ws2 => r = nI i ∧ ws2 = ws) (va_A ws sz)) 0 0 (va_A ws sz) := by
  refine k_met (by decide) (Nat.le_of_ble_eq_true rfl) fun p e s m9 below meth c C hAB hAf hel => ?_
  refine j_sub [0, 1] rfl ?_
  refine j_iload_n C 0 rfl rfl dJ15_checkIndex_7cf53_0 ?_
  refine j_iload_n C 1 rfl rfl dJ15_checkIndex_7cf53_1 ?_
  refine j_null C dJ15_checkIndex_7cf53_2 ?_
  refine k_callSi (As := [.int (nI i), .int (nI n), .null]) (rest := []) C hAB hAf hel (c_pchk hi hn) (va_cwS 3 C.ts (good_S mw_317 mw_318 mw_75 mw_319) rfl rfl rfl (by decide +kernel) ⟨Nat.le_of_ble_eq_true rfl, Nat.le_of_ble_eq_true rfl⟩) rfl rfl (Nat.le_of_ble_eq_true rfl) dJ15_checkIndex_7cf53_3 (⟨Nat.le_of_ble_eq_true rfl, Nat.le_of_ble_eq_true rfl⟩) (fun r ws2 hok => ?_)
  obtain ⟨rfl, rfl⟩ := hok
  exact k_iret C rfl rfl ⟨rfl, rfl⟩ (Nat.le_of_ble_eq_true rfl) (Nat.le_of_ble_eq_true rfl) dJ15_checkIndex_7cf53_6
abbrev rm_eldat : Room := { frames := 0, cells := 0, slots := 0, locals := 0 }
set_option maxRecDepth 100000 in
set_option maxHeartbeats 4000000 in
theorem c_eldat {l : Launch} {g : Gc} {ws : va_W} {Cn : String} {Y : Nat → Prop} {lo arr n i j cap y : Nat} {m : Int32} {raw : Nat → Option Nat} (h0 : ws[0]? = some (lo, .inr (0, [.int m, .ref arr, .int (nI n)]))) (h1 : ws[j]? = some (arr, aR g 4 cap raw)) (hi : i < cap) (hn : cap < 2 ^ 31) (hr : raw i = some y) (sz : Nat) : Met l yJx4a65c_elementData_915e3 (WS yJx4a65c_elementData_915e3 cJx4a65c_elementData_915e3 2 (some (.object "java/lang/Object"))) rm_eldat (PreL g ws sz Cn Y [.ref lo, .int (nI i)]) (PoLr g (fun ws2 q => ws2 = ws ∧ q = y) (va_A ws sz)) 0 0 (va_A ws sz) := by
  refine k_met (by decide) (Nat.le_of_ble_eq_true rfl) fun p e s m9 below meth c C hAB hAf hel => ?_
  refine j_sub [0, 1] rfl ?_
  refine j_aload_n C 0 rfl rfl dJx4a65c_elementData_915e3_0 ?_
  refine k_get C in_Jx4a65c (q0 := 0) h0 rfl 1 (by decide) mw_112 (fun _ h => h) rfl dJx4a65c_elementData_915e3_1 ?_
  refine j_iload_n C 1 rfl rfl dJx4a65c_elementData_915e3_4 ?_
  refine k_aald C h1 (vp_in_nI hi hn) dJx4a65c_elementData_915e3_5 ?_
  rw [nI_clamp (by omega), hr]
  exact k_rret C rfl (Or.inl ⟨_, rfl⟩) ⟨rfl, rfl⟩ (Nat.le_of_ble_eq_true rfl) (Nat.le_of_ble_eq_true rfl) dJx4a65c_elementData_915e3_6
abbrev rm_lget : Room := { frames := 2, cells := 0, slots := 0, locals := 44 }
set_option maxRecDepth 100000 in
set_option maxHeartbeats 4000000 in
theorem c_lget {l : Launch} {g : Gc} {ws : va_W} {Cn : String} {Y : Nat → Prop} {lo arr n i j cap y : Nat} {m : Int32} {raw : Nat → Option Nat} (h0 : ws[0]? = some (lo, .inr (0, [.int m, .ref arr, .int (nI n)]))) (h1 : ws[j]? = some (arr, aR g 4 cap raw)) (hi : i < n) (hnc : n ≤ cap) (hn : cap < 2 ^ 31) (hr : raw i = some y) (sz : Nat) : Met l yJx4a65c_get_915e3 (WS yJx4a65c_get_915e3 cJx4a65c_get_915e3 2 (some (.object "java/lang/Object"))) rm_lget (PreL g ws sz Cn Y [.ref lo, .int (nI i)]) (PoLr g (fun ws2 q => ws2 = ws ∧ q = y) (va_A ws sz)) 0 0 (va_A ws sz) := by
  refine k_met (by decide) (Nat.le_of_ble_eq_true rfl) fun p e s m9 below meth c C hAB hAf hel => ?_
  refine j_sub [0, 1] rfl ?_
  refine j_iload_n C 1 rfl rfl dJx4a65c_get_915e3_0 ?_
  refine j_aload_n C 0 rfl rfl dJx4a65c_get_915e3_1 ?_
  refine k_get C in_Jx4a65c (q0 := 0) h0 rfl 2 (by decide) mw_113 (fun _ h => h) rfl dJx4a65c_get_915e3_2 ?_
  refine k_callSi (As := [.int (nI i), .int (nI n)]) (rest := []) C hAB hAf hel (c_chk hi (by omega)) (va_cwS 2 C.ts (good_S mw_314 mw_315 mw_74 mw_316) rfl rfl rfl (by decide +kernel) ⟨Nat.le_of_ble_eq_true rfl, Nat.le_of_ble_eq_true rfl⟩) rfl rfl (Nat.le_of_ble_eq_true rfl) dJx4a65c_get_915e3_5 (⟨Nat.le_of_ble_eq_true rfl, Nat.le_of_ble_eq_true rfl⟩) (fun r ws2 hok => ?_)
  obtain ⟨rfl, rfl⟩ := hok
  refine j_pop C rfl dJx4a65c_get_915e3_8 ?_
  refine j_aload_n C 0 rfl rfl dJx4a65c_get_915e3_9 ?_
  refine j_iload_n C 1 rfl rfl dJx4a65c_get_915e3_10 ?_
  refine k_callVr (As := [.int (nI i)]) (rest := []) (qc := (RJx4a65c, TJx4a65c, 3)) C hAB hAf hel (q0 := 0) (c_eldat h0 h1 (by omega) hn hr) (cwV 1 C.ts (good_V mw_320 mw_321 mw_322 mw_67 mw_323) rfl rfl rfl (by decide +kernel) ⟨Nat.le_of_ble_eq_true rfl, Nat.le_of_ble_eq_true rfl⟩) h0 rfl rfl rfl (Nat.le_of_ble_eq_true rfl) dJx4a65c_get_915e3_11 (⟨Nat.le_of_ble_eq_true rfl, Nat.le_of_ble_eq_true rfl⟩) (fun ws2 q hok => ?_)
  obtain ⟨rfl, rfl⟩ := hok
  exact k_rret C rfl (Or.inl ⟨_, rfl⟩) ⟨rfl, rfl⟩ (Nat.le_of_ble_eq_true rfl) (Nat.le_of_ble_eq_true rfl) dJx4a65c_get_915e3_14
abbrev rm_rchk : Room := { frames := 0, cells := 0, slots := 0, locals := 0 }
set_option maxRecDepth 100000 in
set_option maxHeartbeats 4000000 in
theorem c_rchk {l : Launch} {g : Gc} {ws : va_W} {Cn : String} {Y : Nat → Prop} {lo arr n : Nat} {m : Int32} {i : Nat} (h0 : ws[0]? = some (lo, .inr (0, [.int m, .ref arr, .int (nI n)]))) (hi : i ≤ n) (hn : n < 15) (sz : Nat) : Met l yJx4a65c_rangeCheckForAdd_d00df (WS yJx4a65c_rangeCheckForAdd_d00df cJx4a65c_rangeCheckForAdd_d00df 2 none) rm_rchk (PreL g ws sz Cn Y [.ref lo, .int (nI i)]) (PoLv g (fun ws2 => ws2 = ws) (va_A ws sz)) 0 0 (va_A ws sz) := by
  refine k_met (by decide) (Nat.le_of_ble_eq_true rfl) fun p e s m9 below meth c C hAB hAf hel => ?_
  refine j_sub [0, 1] rfl ?_
  refine j_iload_n C 1 rfl rfl dJx4a65c_rangeCheckForAdd_d00df_0 ?_
  refine j_aload_n C 0 rfl rfl dJx4a65c_rangeCheckForAdd_d00df_1 ?_
  refine k_get C in_Jx4a65c (q0 := 0) h0 rfl 2 (by decide) mw_113 (fun _ h => h) rfl dJx4a65c_rangeCheckForAdd_d00df_2 ?_
  refine j_icmp_gt (tgt := 12) C (by decide) dJx4a65c_rangeCheckForAdd_d00df_5 (fun hc => (nI_nlt hi (by omega) hc).elim) (fun hc => ?_)
  refine j_iload_n C 1 rfl rfl dJx4a65c_rangeCheckForAdd_d00df_8 ?_
  refine j_if_ge (tgt := 25) C (by decide) dJx4a65c_rangeCheckForAdd_d00df_9 (fun hc => ?_) (fun hc => (hc (nI_pos' (by omega))).elim)
  exact k_vret C rfl rfl (Nat.le_of_ble_eq_true rfl) (Nat.le_of_ble_eq_true rfl) dJx4a65c_rangeCheckForAdd_d00df_25
/-- behind an add at a place -/
def LB (g : Gc) (lo : Nat) (m : Int32) (n : Nat) (raw : Nat → Option Nat) (i v : Nat) (ws : va_W) : Prop := ∃ q k raw2, LI g ws lo m q (n + 1) k raw2 ∧ n < k ∧ k ≤ 21 ∧ ∀ j, j ≤ n → raw2 j = if j < i then raw j else if j = i then some v else raw (j - 1)
theorem addAt_ok {g : Gc} {ws : va_W} {lo q n k j v i : Nat} {m : Int32} {raw raw2 : Nat → Option Nat} (hi : i ≤ n) (hn : n < 15) (h0 : ws[0]? = some (lo, .inr (0, [.int m, .ref q, .int (nI n)]))) (hj : 0 < j) (h1 : ws[j]? = some (q, aR g 4 k raw2)) (hk : n < k) (hk2 : k ≤ 21) (he : ∀ i, i < n → raw2 i = raw i) :
    LB g lo m n raw i v (((ws.set j (q, aR g 4 k (va_cpy raw2 raw2 i (i + 1) (n - i)))).set j (q, aR g 4 k (va_up (va_cpy raw2 raw2 i (i + 1) (n - i)) i (some v)))).set 0 (lo, .inr (0, [Value.int m, .ref q, .int (nI n)].set 2 (.int (nI (n + 1)))))) := by
  have hl : 0 < ws.length := (List.getElem?_eq_some_iff.mp h0).1
  have hlj : j < ws.length := (List.getElem?_eq_some_iff.mp h1).1
  refine ⟨q, k, va_up (va_cpy raw2 raw2 i (i + 1) (n - i)) i (some v), ⟨?_, j, hj, ?_⟩, hk, hk2, fun t ht => ?_⟩
  · rw [List.getElem?_set_self (by simpa using hl)]; rfl
  · rw [List.getElem?_set_ne (by omega), List.getElem?_set_self (by simpa using hlj)]
  · by_cases h : t = i
    · subst h; rw [va_up_self, if_neg (Nat.lt_irrefl _), if_pos rfl]
    · rw [va_up_ne _ _ h]
      by_cases h2 : t < i
      · rw [if_pos h2, pk_cpy_out (Or.inl (by omega))]; exact he t (by omega)
      · rw [if_neg h2, if_neg h, pk_cpy_in (by omega) (by omega), show i + (t - (i + 1)) = t - 1 by omega]; exact he (t - 1) (by omega)
abbrev rm_laddAt : Room := { frames := 5, cells := 1, slots := 21, locals := 150 }
set_option maxRecDepth 100000 in
set_option maxHeartbeats 4000000 in
theorem t_laddAt {p : Program} {l : Launch} {e : Env} {s : State} {m9 : MethodId} {below : List Frame} {meth : Method} {c : Code} {g : Gc} {ws ws0 : va_W} {Cn : String} {Y : Nat → Prop} {lo q n k j v i sz cells slots : Nat} {m : Int32} {raw raw2 : Nat → Option Nat} (C : Cx p s m9 #[.ref lo, .int (nI i), .ref v] meth c cJx4a65c_add_7a177 5 yJx4a65c_add_7a177.cls none COM g) (hel : EL s (va_A ws0 sz) Cn Y) (hcs : cells ≤ 1 ∧ slots ≤ 21) (hca : (Cn, "java/lang/Object") ∈ caL) (hy : Y v) (hi : i ≤ n) (hn : n < 15) (h0 : ws[0]? = some (lo, .inr (0, [.int m, .ref q, .int (nI n)]))) (hj : 0 < j) (h1 : ws[j]? = some (q, aR g 4 k raw2)) (hk : n < k) (hk2 : k ≤ 21) (hE : ∀ i, i < n → raw2 i = raw i) (hfy : ∀ i, i < n → ∀ y, raw i = some y → Y y) :
    JG p l e rm_laddAt s m9 #[.ref lo, .int (nI i), .ref v] below meth c 5 (va_A ws0 sz) (MQ below (PoLv g (LB g lo m n raw i v) (va_A ws0 sz)) #[.ref lo, .int (nI i), .ref v] s 1 21 (va_A ws0 sz)) (VW g (va_A ws0 sz) ws) cells slots [(4, .ref q), (3, .int (nI n)), (0, .ref lo), (1, .int (nI i)), (2, .ref v)] 38 [] := by
  refine j_aload C 0 rfl dJx4a65c_add_7a177_38 ?_
  refine j_iload_n C 3 rfl rfl dJx4a65c_add_7a177_40 ?_
  refine j_aload C 0 rfl dJx4a65c_add_7a177_41 ?_
  refine j_iload_n C 3 rfl rfl dJx4a65c_add_7a177_43 ?_
  refine j_iconst (v := 1) C (by decide) dJx4a65c_add_7a177_44 ?_
  refine j_iadd C dJx4a65c_add_7a177_45 ?_
  rw [nI_1]
  refine j_iload_n C 1 rfl rfl dJx4a65c_add_7a177_46 ?_
  refine j_iload_n C 3 rfl rfl dJx4a65c_add_7a177_47 ?_
  refine j_isub C dJx4a65c_add_7a177_48 ?_
  rw [nI_sub hi]
  refine k_copy C hel hca (q0 := j) (q1 := j) mw_560 mw_427 mw_426 mw_80 h1 h1 (nI_pos (by omega)) (nI_pos (by omega)) (nI_pos (by omega)) (by rw [nI_clamp (by omega), nI_clamp (by omega)]; omega) (by rw [nI_clamp (by omega), nI_clamp (by omega)]; omega) (fun t ht y hy => by rw [nI_clamp (by omega)] at ht; rw [nI_clamp (by omega), hE _ (by omega)] at hy; exact hfy _ (by omega) y hy) (Nat.le_of_ble_eq_true rfl) (Nat.le_of_ble_eq_true rfl) dJx4a65c_add_7a177_49 ?_
  rw [nI_clamp (show i < 2 ^ 31 by omega), nI_clamp (show i + 1 < 2 ^ 31 by omega), nI_clamp (show n - i < 2 ^ 31 by omega)]
  refine j_aload C 0 rfl dJx4a65c_add_7a177_52 ?_
  refine j_iload_n C 3 rfl rfl dJx4a65c_add_7a177_54 ?_
  refine j_aload_n C 4 rfl rfl dJx4a65c_add_7a177_55 ?_
  refine k_aastO C hel hca (q0 := j) hy (by rw [List.getElem?_set_self (List.getElem?_eq_some_iff.mp h1).1]) (vp_in_nI (show i < k by omega) (by omega)) dJx4a65c_add_7a177_56 ?_
  rw [nI_clamp (show i < 2 ^ 31 by omega)]
  refine j_aload_n C 2 rfl rfl dJx4a65c_add_7a177_57 ?_
  refine j_iload_n C 1 rfl rfl dJx4a65c_add_7a177_58 ?_
  refine j_iconst (v := 1) C (by decide) dJx4a65c_add_7a177_59 ?_
  refine j_iadd C dJx4a65c_add_7a177_60 ?_
  rw [nI_1]
  refine k_put C in_Jx4a65c tyJx4a65c_ok nmJx4a65c (q0 := 0) (by rw [List.getElem?_set_ne (by omega), List.getElem?_set_ne (by omega)]; exact h0) rfl 2 (by decide) mw_113 (fun _ h => h) rfl (ty := .int) (tyJx4a65c_ok 2 (by decide)) rfl rfl (Nat.le_of_ble_eq_true rfl) dJx4a65c_add_7a177_61 ?_
  exact k_vret C rfl (addAt_ok hi hn h0 hj h1 hk hk2 hE) hcs.1 hcs.2 dJx4a65c_add_7a177_64
set_option maxRecDepth 100000 in
set_option maxHeartbeats 4000000 in
theorem c_laddAt {l : Launch} {g : Gc} {ws : va_W} {Cn : String} {Y : Nat → Prop} {lo arr n v i : Nat} {m : Int32} {raw : Nat → Option Nat} (hca : (Cn, "java/lang/Object") ∈ caL) (hy : Y v) (hi : i ≤ n) (hS : LSt g ws lo m arr n raw Y) (sz : Nat) : Met l yJx4a65c_add_7a177 (WS yJx4a65c_add_7a177 cJx4a65c_add_7a177 5 none) rm_laddAt (PreL g ws sz Cn Y [.ref lo, .int (nI i), .ref v]) (PoLv g (LB g lo (m + 1) n raw i v) (va_A ws sz)) 1 21 (va_A ws sz) := by
  refine k_met (by decide) (Nat.le_of_ble_eq_true rfl) fun p e s m9 below meth c C hAB hAf hel => ?_
  refine j_sub [0, 1, 2] rfl ?_
  refine j_aload_n C 0 rfl rfl dJx4a65c_add_7a177_0 ?_
  refine j_iload_n C 1 rfl rfl dJx4a65c_add_7a177_1 ?_
  refine k_callVv (As := [.int (nI i)]) (rest := []) (qc := (RJx4a65c, TJx4a65c, 3)) C hAB hAf hel (q0 := 0) (c_rchk hS.1 hi hS.2.1) (cwV 1 C.ts (good_V mw_556 mw_558 mw_13 mw_67 mw_559) rfl rfl rfl (by decide +kernel) ⟨Nat.le_of_ble_eq_true rfl, Nat.le_of_ble_eq_true rfl⟩) hS.1 rfl rfl rfl (Nat.le_of_ble_eq_true rfl) dJx4a65c_add_7a177_2 (⟨Nat.le_of_ble_eq_true rfl, Nat.le_of_ble_eq_true rfl⟩) (fun ws2 hok => ?_)
  subst hok
  refine j_aload_n C 0 rfl rfl dJx4a65c_add_7a177_5 ?_
  refine j_dup C rfl dJx4a65c_add_7a177_6 ?_
  refine k_get C in_Jx4a65c (q0 := 0) hS.1 rfl 0 (by decide) mw_115 (fun x9 h9 => u_same (C.ts _ mw_116) x9 h9) rfl dJx4a65c_add_7a177_7 ?_
  refine j_iconst (v := 1) C (by decide) dJx4a65c_add_7a177_10 ?_
  refine j_iadd C dJx4a65c_add_7a177_11 ?_
  refine k_put C in_Jx4a65c tyJx4a65c_ok nmJx4a65c (q0 := 0) hS.1 rfl 0 (by decide) mw_115 (fun x9 h9 => u_same (C.ts _ mw_116) x9 h9) rfl (ty := .int) (tyJx4a65c_ok 0 (by decide)) rfl rfl (Nat.le_of_ble_eq_true rfl) dJx4a65c_add_7a177_12 ?_
  replace hS := LSt_mod (m2 := m + 1) hS
  refine j_aload_n C 0 rfl rfl dJx4a65c_add_7a177_15 ?_
  refine k_get C in_Jx4a65c (q0 := 0) hS.1 rfl 2 (by decide) mw_113 (fun _ h => h) rfl dJx4a65c_add_7a177_16 ?_
  refine j_dup C rfl dJx4a65c_add_7a177_19 ?_
  refine j_istore_n (L' := [(3, .int (nI n)), (0, .ref lo), (1, .int (nI i)), (2, .ref v)]) C rfl (by decide) rfl dJx4a65c_add_7a177_20 ?_
  refine j_aload_n C 1 rfl rfl dJx4a65c_add_7a177_21 ?_
  refine k_get C in_Jx4a65c (q0 := 0) hS.1 rfl 1 (by decide) mw_112 (fun _ h => h) rfl dJx4a65c_add_7a177_22 ?_
  refine j_dup C rfl dJx4a65c_add_7a177_25 ?_
  refine j_astore (L' := [(4, .ref arr), (3, .int (nI n)), (0, .ref lo), (1, .int (nI i)), (2, .ref v)]) C (by decide) rfl dJx4a65c_add_7a177_26 ?_
  obtain ⟨h0, hn, hfy, hc0⟩ := hS
  rcases hc0 with ⟨rfl, rfl⟩ | ⟨j, cap, hj, h1, hnc, hc21, hp⟩
  · refine k_alen0 C hAB dJx4a65c_add_7a177_28 ?_
    refine j_icmp_ne (tgt := 38) C (by decide) dJx4a65c_add_7a177_29 (fun hc => absurd rfl hc) (fun _ => ?_)
    refine j_aload_n C 2 rfl rfl dJx4a65c_add_7a177_32 ?_
    refine k_callVr (As := []) (rest := []) (qc := (RJx4a65c, TJx4a65c, 3)) C hAB hAf hel (q0 := 0) (c_grow hca ⟨h0, hn, hfy, Or.inl ⟨rfl, rfl⟩⟩) (cwV 0 C.ts (good_V mw_379 mw_381 mw_1 mw_67 mw_382) rfl rfl rfl (by decide +kernel) ⟨Nat.le_of_ble_eq_true rfl, Nat.le_of_ble_eq_true rfl⟩) h0 rfl rfl rfl (Nat.le_of_ble_eq_true rfl) dJx4a65c_add_7a177_33 (⟨Nat.le_of_ble_eq_true rfl, Nat.le_of_ble_eq_true rfl⟩) (fun ws2 q hok => ?_)
    obtain ⟨k, raw2, ⟨h0, j, hj, h1⟩, hk, hk2, hE⟩ := hok
    refine j_astore (L' := [(4, .ref q), (3, .int (nI 0)), (0, .ref lo), (1, .int (nI i)), (2, .ref v)]) C (by decide) rfl dJx4a65c_add_7a177_36 ?_
    exact t_laddAt C hel ⟨Nat.le_of_ble_eq_true rfl, Nat.le_of_ble_eq_true rfl⟩ hca hy hi hn h0 hj h1 hk hk2 hE hfy
  · rcases Nat.lt_or_ge n cap with q9 | q9
    · refine k_alen C (q0 := j) h1 dJx4a65c_add_7a177_28 ?_
      refine j_icmp_ne (tgt := 38) C (by decide) dJx4a65c_add_7a177_29 (fun hc => ?_) (fun hc => absurd ((nI_eq (by omega) (by omega)).mp hc) (Nat.ne_of_lt q9))
      exact t_laddAt C hel ⟨Nat.le_of_ble_eq_true rfl, Nat.le_of_ble_eq_true rfl⟩ hca hy hi hn h0 hj h1 q9 hc21 (fun _ _ => rfl) hfy
    · have e9 : cap = n := by omega
      subst e9
      refine k_alen C (q0 := j) h1 dJx4a65c_add_7a177_28 ?_
      refine j_icmp_ne (tgt := 38) C (by decide) dJx4a65c_add_7a177_29 (fun hc => absurd rfl hc) (fun _ => ?_)
      refine j_aload_n C 2 rfl rfl dJx4a65c_add_7a177_32 ?_
      refine k_callVr (As := []) (rest := []) (qc := (RJx4a65c, TJx4a65c, 3)) C hAB hAf hel (q0 := 0) (c_grow hca ⟨h0, hn, hfy, Or.inr ⟨j, hj, h1, hp⟩⟩) (cwV 0 C.ts (good_V mw_379 mw_381 mw_1 mw_67 mw_382) rfl rfl rfl (by decide +kernel) ⟨Nat.le_of_ble_eq_true rfl, Nat.le_of_ble_eq_true rfl⟩) h0 rfl rfl rfl (Nat.le_of_ble_eq_true rfl) dJx4a65c_add_7a177_33 (⟨Nat.le_of_ble_eq_true rfl, Nat.le_of_ble_eq_true rfl⟩) (fun ws2 q hok => ?_)
      obtain ⟨k, raw2, ⟨h0, j, hj, h1⟩, hk, hk2, hE⟩ := hok
      refine j_astore (L' := [(4, .ref q), (3, .int (nI cap)), (0, .ref lo), (1, .int (nI i)), (2, .ref v)]) C (by decide) rfl dJx4a65c_add_7a177_36 ?_
      exact t_laddAt C hel ⟨Nat.le_of_ble_eq_true rfl, Nat.le_of_ble_eq_true rfl⟩ hca hy hi hn h0 hj h1 hk hk2 hE hfy
abbrev rm_lclear : Room := { frames := 0, cells := 0, slots := 0, locals := 0 }
theorem lset0 {ws : va_W} {q : Nat × va_E} {r : Nat × va_E} (h : ws[0]? = some q) : (ws.set 0 r)[0]? = some r := List.getElem?_set_self (List.getElem?_eq_some_iff.mp h).1
theorem lset1 {ws : va_W} {j : Nat} {q r : Nat × va_E} (hj : 0 < j) (h : ws[j]? = some q) : (ws.set 0 r)[j]? = some q := by rw [List.getElem?_set_ne (by omega)]; exact h
set_option maxRecDepth 100000 in
set_option maxHeartbeats 4000000 in
theorem c_lclear0 {l : Launch} {g : Gc} {ws : va_W} {Cn : String} {Y : Nat → Prop} {lo arr : Nat} {m : Int32} (h0 : ws[0]? = some (lo, .inr (0, [.int m, .ref arr, .int (nI 0)]))) (sz : Nat) : Met l yJx4a65c_clear_da8c8 (WS yJx4a65c_clear_da8c8 cJx4a65c_clear_da8c8 4 none) rm_lclear (PreL g ws sz Cn Y [.ref lo]) (PoLv g (fun ws2 => ws2[0]? = some (lo, .inr (0, [.int (m + 1), .ref arr, .int (nI 0)]))) (va_A ws sz)) 0 0 (va_A ws sz) := by
  refine k_met (by decide) (Nat.le_of_ble_eq_true rfl) fun p e s m9 below meth c C hAB hAf hel => ?_
  refine j_sub [0] rfl ?_
  refine j_aload_n C 0 rfl rfl dJx4a65c_clear_da8c8_0 ?_
  refine j_dup C rfl dJx4a65c_clear_da8c8_1 ?_
  refine k_get C in_Jx4a65c (q0 := 0) h0 rfl 0 (by decide) mw_115 (fun x9 h9 => u_same (C.ts _ mw_116) x9 h9) rfl dJx4a65c_clear_da8c8_2 ?_
  refine j_iconst (v := 1) C (by decide) dJx4a65c_clear_da8c8_5 ?_
  refine j_iadd C dJx4a65c_clear_da8c8_6 ?_
  refine k_put C in_Jx4a65c tyJx4a65c_ok nmJx4a65c (q0 := 0) h0 rfl 0 (by decide) mw_115 (fun x9 h9 => u_same (C.ts _ mw_116) x9 h9) rfl (ty := .int) (tyJx4a65c_ok 0 (by decide)) rfl rfl (Nat.le_of_ble_eq_true rfl) dJx4a65c_clear_da8c8_7 ?_
  refine j_aload_n C 0 rfl rfl dJx4a65c_clear_da8c8_10 ?_
  refine k_get C in_Jx4a65c (q0 := 0) (lset0 h0) rfl 1 (by decide) mw_112 (fun _ h => h) rfl dJx4a65c_clear_da8c8_11 ?_
  refine j_astore_n (L' := [(1, .ref arr), (0, .ref lo)]) C rfl (by decide) rfl dJx4a65c_clear_da8c8_14 ?_
  refine j_aload_n C 1 rfl rfl dJx4a65c_clear_da8c8_15 ?_
  refine k_get C in_Jx4a65c (q0 := 0) (lset0 h0) rfl 2 (by decide) mw_113 (fun _ h => h) rfl dJx4a65c_clear_da8c8_16 ?_
  refine j_istore_n (L' := [(2, .int (nI 0)), (1, .ref arr), (0, .ref lo)]) C rfl (by decide) rfl dJx4a65c_clear_da8c8_19 ?_
  refine j_aload_n C 2 rfl rfl dJx4a65c_clear_da8c8_20 ?_
  refine j_iconst (v := 0) C (by decide) dJx4a65c_clear_da8c8_21 ?_
  refine j_dup_x1 C rfl rfl dJx4a65c_clear_da8c8_22 ?_
  refine k_put C in_Jx4a65c tyJx4a65c_ok nmJx4a65c (q0 := 0) (lset0 h0) rfl 2 (by decide) mw_113 (fun _ h => h) rfl (ty := .int) (tyJx4a65c_ok 2 (by decide)) rfl rfl (Nat.le_of_ble_eq_true rfl) dJx4a65c_clear_da8c8_23 ?_
  refine j_istore_n (L' := [(3, .int (0 : Int32)), (2, .int (nI 0)), (1, .ref arr), (0, .ref lo)]) C rfl (by decide) rfl dJx4a65c_clear_da8c8_26 ?_
  refine j_iload_n C 0 rfl rfl dJx4a65c_clear_da8c8_27 ?_
  refine j_iload_n C 1 rfl rfl dJx4a65c_clear_da8c8_28 ?_
  refine j_icmp_ge (tgt := 42) C (by decide) dJx4a65c_clear_da8c8_29 (fun _ => ?_) (fun hc => absurd (by decide) hc)
  exact k_vret C rfl (lset0 (lset0 h0)) (Nat.le_of_ble_eq_true rfl) (Nat.le_of_ble_eq_true rfl) dJx4a65c_clear_da8c8_42
set_option maxRecDepth 100000 in
set_option maxHeartbeats 4000000 in
theorem t_lclear {p : Program} {l : Launch} {e : Env} {s : State} {m9 : MethodId} {below : List Frame} {meth : Method} {c : Code} {g : Gc} {ws0 : va_W} {lo arr n j cap sz : Nat} {m : Int32} (C : Cx p s m9 #[.ref lo] meth c cJx4a65c_clear_da8c8 4 yJx4a65c_clear_da8c8.cls none COM g) (hj : 0 < j) (hnc : n ≤ cap) (hcp : cap < 2 ^ 31) : ∀ (r i : Nat) (ws : va_W) (raw : Nat → Option Nat), i + r = n → ws[0]? = some (lo, .inr (0, [.int m, .ref arr, .int (nI 0)])) → ws[j]? = some (arr, aR g 4 cap raw) →
    JG p l e rm_lclear s m9 #[.ref lo] below meth c 4 (va_A ws0 sz) (MQ below (PoLv g (fun ws2 => ∃ raw2, LI g ws2 lo m arr 0 cap raw2) (va_A ws0 sz)) #[.ref lo] s 0 0 (va_A ws0 sz)) (VW g (va_A ws0 sz) ws) 0 0 [(3, .int (nI i)), (2, .int (nI n)), (1, .ref arr), (0, .ref lo)] 27 [] := by
  intro r
  induction r with
  | zero =>
    intro i ws raw e h0 h1
    have e : i = n := by omega
    subst e
    refine j_iload_n C 0 rfl rfl dJx4a65c_clear_da8c8_27 ?_
    refine j_iload_n C 1 rfl rfl dJx4a65c_clear_da8c8_28 ?_
    refine j_icmp_ge (tgt := 42) C (by decide) dJx4a65c_clear_da8c8_29 (fun _ => ?_) (fun hc => absurd (Int32.le_refl _) hc)
    exact k_vret C rfl ⟨raw, h0, j, hj, h1⟩ (Nat.le_of_ble_eq_true rfl) (Nat.le_of_ble_eq_true rfl) dJx4a65c_clear_da8c8_42
  | succ r ih =>
    intro i ws raw e h0 h1
    refine j_iload_n C 0 rfl rfl dJx4a65c_clear_da8c8_27 ?_
    refine j_iload_n C 1 rfl rfl dJx4a65c_clear_da8c8_28 ?_
    refine j_icmp_ge (tgt := 42) C (by decide) dJx4a65c_clear_da8c8_29 (fun hc => absurd hc (nI_ge (by omega) (by omega))) (fun hc => ?_)
    refine j_aload_n C 2 rfl rfl dJx4a65c_clear_da8c8_32 ?_
    refine j_iload_n C 0 rfl rfl dJx4a65c_clear_da8c8_33 ?_
    refine j_null C dJx4a65c_clear_da8c8_34 ?_
    refine k_aastN C (q0 := j) h1 (vp_in_nI (show i < cap by omega) hcp) dJx4a65c_clear_da8c8_35 ?_
    refine j_iinc (v := nI i + 1) (L' := [(3, .int (nI i + 1)), (2, .int (nI n)), (1, .ref arr), (0, .ref lo)]) C 0 rfl rfl (by decide) rfl dJx4a65c_clear_da8c8_36 ?_
    rw [nI_1]
    refine j_goto (tgt := 27) C (by decide) dJx4a65c_clear_da8c8_39 ?_
    exact ih (i + 1) _ _ (by omega) (by rw [List.getElem?_set_ne (by omega)]; exact h0) (List.getElem?_set_self (List.getElem?_eq_some_iff.mp h1).1)
set_option maxRecDepth 100000 in
set_option maxHeartbeats 4000000 in
theorem c_lclear {l : Launch} {g : Gc} {ws : va_W} {Cn : String} {Y : Nat → Prop} {lo arr n j cap : Nat} {m : Int32} {raw : Nat → Option Nat} (h0 : ws[0]? = some (lo, .inr (0, [.int m, .ref arr, .int (nI n)]))) (hj : 0 < j) (h1 : ws[j]? = some (arr, aR g 4 cap raw)) (hnc : n ≤ cap) (hc : cap < 2 ^ 31) (sz : Nat) : Met l yJx4a65c_clear_da8c8 (WS yJx4a65c_clear_da8c8 cJx4a65c_clear_da8c8 4 none) rm_lclear (PreL g ws sz Cn Y [.ref lo]) (PoLv g (fun ws2 => ∃ raw2, LI g ws2 lo (m + 1) arr 0 cap raw2) (va_A ws sz)) 0 0 (va_A ws sz) := by
  refine k_met (by decide) (Nat.le_of_ble_eq_true rfl) fun p e s m9 below meth c C hAB hAf hel => ?_
  refine j_sub [0] rfl ?_
  refine j_aload_n C 0 rfl rfl dJx4a65c_clear_da8c8_0 ?_
  refine j_dup C rfl dJx4a65c_clear_da8c8_1 ?_
  refine k_get C in_Jx4a65c (q0 := 0) h0 rfl 0 (by decide) mw_115 (fun x9 h9 => u_same (C.ts _ mw_116) x9 h9) rfl dJx4a65c_clear_da8c8_2 ?_
  refine j_iconst (v := 1) C (by decide) dJx4a65c_clear_da8c8_5 ?_
  refine j_iadd C dJx4a65c_clear_da8c8_6 ?_
  refine k_put C in_Jx4a65c tyJx4a65c_ok nmJx4a65c (q0 := 0) h0 rfl 0 (by decide) mw_115 (fun x9 h9 => u_same (C.ts _ mw_116) x9 h9) rfl (ty := .int) (tyJx4a65c_ok 0 (by decide)) rfl rfl (Nat.le_of_ble_eq_true rfl) dJx4a65c_clear_da8c8_7 ?_
  refine j_aload_n C 0 rfl rfl dJx4a65c_clear_da8c8_10 ?_
  refine k_get C in_Jx4a65c (q0 := 0) (lset0 h0) rfl 1 (by decide) mw_112 (fun _ h => h) rfl dJx4a65c_clear_da8c8_11 ?_
  refine j_astore_n (L' := [(1, .ref arr), (0, .ref lo)]) C rfl (by decide) rfl dJx4a65c_clear_da8c8_14 ?_
  refine j_aload_n C 1 rfl rfl dJx4a65c_clear_da8c8_15 ?_
  refine k_get C in_Jx4a65c (q0 := 0) (lset0 h0) rfl 2 (by decide) mw_113 (fun _ h => h) rfl dJx4a65c_clear_da8c8_16 ?_
  refine j_istore_n (L' := [(2, .int (nI n)), (1, .ref arr), (0, .ref lo)]) C rfl (by decide) rfl dJx4a65c_clear_da8c8_19 ?_
  refine j_aload_n C 2 rfl rfl dJx4a65c_clear_da8c8_20 ?_
  refine j_iconst (v := 0) C (by decide) dJx4a65c_clear_da8c8_21 ?_
  refine j_dup_x1 C rfl rfl dJx4a65c_clear_da8c8_22 ?_
  refine k_put C in_Jx4a65c tyJx4a65c_ok nmJx4a65c (q0 := 0) (lset0 h0) rfl 2 (by decide) mw_113 (fun _ h => h) rfl (ty := .int) (tyJx4a65c_ok 2 (by decide)) rfl rfl (Nat.le_of_ble_eq_true rfl) dJx4a65c_clear_da8c8_23 ?_
  refine j_istore_n (L' := [(3, .int (0 : Int32)), (2, .int (nI n)), (1, .ref arr), (0, .ref lo)]) C rfl (by decide) rfl dJx4a65c_clear_da8c8_26 ?_
  exact t_lclear C hj hnc hc n 0 _ raw (by omega) (lset0 (lset0 h0)) (lset1 hj (lset1 hj h1))
abbrev rm_acini : Room := { frames := 1, cells := 0, slots := 0, locals := 20 }
set_option maxRecDepth 100000 in
set_option maxHeartbeats 4000000 in
theorem c_acini {l : Launch} {g : Gc} {ws : va_W} {Cn : String} {Y : Nat → Prop} {lo : Nat} (sz : Nat) : Met l yJxa1e45_init_da8c8 (WS yJxa1e45_init_da8c8 cJxa1e45_init_da8c8 1 none) rm_acini (PreL g ws sz Cn Y [.ref lo]) (PoLv g (fun ws2 => ws2 = ws) (va_A ws sz)) 0 0 (va_A ws sz) := by
  refine k_met (by decide) (Nat.le_of_ble_eq_true rfl) fun p e s m9 below meth c C hAB hAf hel => ?_
  refine j_sub [0] rfl ?_
  refine j_aload_n C 0 rfl rfl dJxa1e45_init_da8c8_0 ?_
  refine j_objInit C mw_109 mw_90 mw_91 (Nat.le_of_ble_eq_true rfl) (Nat.le_of_ble_eq_true rfl) dJxa1e45_init_da8c8_1 ?_
  exact k_vret C rfl rfl (Nat.le_of_ble_eq_true rfl) (Nat.le_of_ble_eq_true rfl) dJxa1e45_init_da8c8_4
abbrev rm_alini : Room := { frames := 2, cells := 0, slots := 0, locals := 40 }
set_option maxRecDepth 100000 in
set_option maxHeartbeats 4000000 in
theorem c_alini {l : Launch} {g : Gc} {ws : va_W} {Cn : String} {Y : Nat → Prop} {lo : Nat} {m n0 : Int32} {v1 : Value} (h0 : ws[0]? = some (lo, .inr (0, [.int m, v1, .int n0]))) (sz : Nat) : Met l yJxc12de_init_da8c8 (WS yJxc12de_init_da8c8 cJxc12de_init_da8c8 1 none) rm_alini (PreL g ws sz Cn Y [.ref lo]) (PoLv g (fun ws2 => ws2 = ws.set 0 (lo, .inr (0, [.int 0, v1, .int n0]))) (va_A ws sz)) 0 0 (va_A ws sz) := by
  refine k_met (by decide) (Nat.le_of_ble_eq_true rfl) fun p e s m9 below meth c C hAB hAf hel => ?_
  refine j_sub [0] rfl ?_
  refine j_aload_n C 0 rfl rfl dJxc12de_init_da8c8_0 ?_
  refine k_callIv (As := []) (rest := []) C hAB hAf hel (c_acini) (cwI 0 C.ts (good_WS mw_108) rfl rfl rfl (C.ts _ mw_65) (C.ts _ mw_106) (C.ts _ mw_107) rfl (by decide +kernel) ⟨Nat.le_of_ble_eq_true rfl, Nat.le_of_ble_eq_true rfl⟩) rfl rfl (Nat.le_of_ble_eq_true rfl) dJxc12de_init_da8c8_1 (⟨Nat.le_of_ble_eq_true rfl, Nat.le_of_ble_eq_true rfl⟩) (fun ws2 hok => ?_)
  subst hok
  refine j_aload_n C 0 rfl rfl dJxc12de_init_da8c8_4 ?_
  refine j_iconst (v := 0) C (by decide) dJxc12de_init_da8c8_5 ?_
  refine k_put C in_Jx4a65c tyJx4a65c_ok nmJx4a65c (q0 := 0) h0 rfl 0 (by decide) mw_114 (fun _ h => h) rfl (ty := .int) (tyJx4a65c_ok 0 (by decide)) rfl rfl (Nat.le_of_ble_eq_true rfl) dJxc12de_init_da8c8_6 ?_
  exact k_vret C rfl rfl (Nat.le_of_ble_eq_true rfl) (Nat.le_of_ble_eq_true rfl) dJxc12de_init_da8c8_9
abbrev rm_lini : Room := { frames := 3, cells := 0, slots := 0, locals := 60 }
set_option maxRecDepth 100000 in
set_option maxHeartbeats 4000000 in
theorem c_lini {l : Launch} {g : Gc} {ws : va_W} {Cn : String} {Y : Nat → Prop} {lo : Nat} {m n0 : Int32} {v1 : Value} (h0 : ws[0]? = some (lo, .inr (0, [.int m, v1, .int n0]))) (sz : Nat) : Met l yJx4a65c_init_da8c8 (WS yJx4a65c_init_da8c8 cJx4a65c_init_da8c8 1 none) rm_lini (PreL g ws sz Cn Y [.ref lo]) (PoLv g (fun ws2 => ws2[0]? = some (lo, .inr (0, [.int 0, .ref g.2.2.1, .int n0]))) (va_A ws sz)) 0 0 (va_A ws sz) := by
  refine k_met (by decide) (Nat.le_of_ble_eq_true rfl) fun p e s m9 below meth c C hAB hAf hel => ?_
  refine j_sub [0] rfl ?_
  refine j_aload_n C 0 rfl rfl dJx4a65c_init_da8c8_0 ?_
  refine k_callIv (As := []) (rest := []) C hAB hAf hel (c_alini h0) (cwI 0 C.ts (good_WS mw_105) rfl rfl rfl (C.ts _ mw_66) (C.ts _ mw_103) (C.ts _ mw_104) rfl (by decide +kernel) ⟨Nat.le_of_ble_eq_true rfl, Nat.le_of_ble_eq_true rfl⟩) rfl rfl (Nat.le_of_ble_eq_true rfl) dJx4a65c_init_da8c8_1 (⟨Nat.le_of_ble_eq_true rfl, Nat.le_of_ble_eq_true rfl⟩) (fun ws2 hok => ?_)
  subst hok
  refine j_aload_n C 0 rfl rfl dJx4a65c_init_da8c8_4 ?_
  refine k_gets C hAB mw_110 dJx4a65c_init_da8c8_5 ?_
  refine k_put C in_Jx4a65c tyJx4a65c_ok nmJx4a65c (q0 := 0) (lset0 h0) rfl 1 (by decide) mw_112 (fun _ h => h) rfl (ty := .array (.object "java/lang/Object")) (tyJx4a65c_ok 1 (by decide)) rfl rfl (Nat.le_of_ble_eq_true rfl) dJx4a65c_init_da8c8_8 ?_
  exact k_vret C rfl (lset0 (lset0 h0)) (Nat.le_of_ble_eq_true rfl) (Nat.le_of_ble_eq_true rfl) dJx4a65c_init_da8c8_11
