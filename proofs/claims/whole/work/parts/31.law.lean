section LAW
variable {p : Program} {l : Launch} {e : Env} {R : Room} {s : State} {m : MethodId} {args : Array Value} {below : List Frame} {meth : Method} {c : Code} {Q : State → Prop}
variable {cc : ByteArray} {nL : Nat} {own : String} {ret1 : Option FieldType} {Ts : List Cond} {g : Gc} {ad : Nat → Nat → Nat} {χ χ' : Mem} {T T' : Nat → Mem} {σ σ' : Mem} {cells slots : Nat} {L0 L1 : List (Nat × Value)} {pc : Nat} {st : List Value} {b L : Nat} {xs : Nat → Int32}
theorem j_sld (C : Cx p s m args meth c cc nL own ret1 Ts g) (hX : va_X b L xs s s.heap) (hbl : b < s.heap.size) (hbA : ¬ geB g b) {i : Int32} (hin : inB i L = true) (hdg : decode cc pc = .ok (.iaload, 1)) (kk : JJ p l e R s m args below meth c nL g ad Q χ T σ cells slots L0 (pc + 1) (.int (xs i.toNatClampNeg) :: st)) : JJ p l e R s m args below meth c nL g ad Q χ T σ cells slots L0 pc (.int i :: .ref b :: st) :=
  fun H locs ls hW hS hl => va_sld C.x C.b hX hbl hbA hS (inB_in hin) hdg (kk H locs ls hW hS hl)
theorem j_slen (C : Cx p s m args meth c cc nL own ret1 Ts g) (hX : va_X b L xs s s.heap) (hbl : b < s.heap.size) (hbA : ¬ geB g b) (hdg : decode cc pc = .ok (.arraylength, 1)) (kk : JJ p l e R s m args below meth c nL g ad Q χ T σ cells slots L0 (pc + 1) (.int (nI L) :: st)) : JJ p l e R s m args below meth c nL g ad Q χ T σ cells slots L0 pc (.ref b :: st) :=
  fun H locs ls hW hS hl => va_slen C.x C.b hX hbl hbA hS hdg (kk H locs ls hW hS hl)
theorem nI_add1 (i k : Nat) : nI i + nI k = nI (i + k) := by unfold nI; rw [← Int32.ofNat_add]
theorem inB_nI {i n : Nat} (hi : i < n) (hn : n < 2 ^ 31) : inB (nI i) n = true := by
  unfold inB
  rw [Bool.and_eq_true, decide_eq_true_iff, decide_eq_true_iff]
  exact vp_in_iff.mp (vp_in_nI hi hn)
/-- one of the script's numbers, with the place that the loop stands at -/
theorem j_sarg (C : Cx p s m args meth c cc nL own ret1 Ts g) (hX : va_X b L xs s s.heap) (hbl : b < s.heap.size) (hbA : ¬ geB g b) {i k : Nat} (hk : k < 5) (hi : i + 5 ≤ L) (hL : L ≤ 2560) {v1 v2 : Value} (d0 : decode cc pc = .ok (.aload_n 0, 1)) (d1 : decode cc (pc + 1) = .ok (.iload_n 3, 1)) (d2 : decode cc (pc + 2) = .ok (.iconst (k : Int), 1)) (d3 : decode cc (pc + 3) = .ok (.iadd, 1)) (d4 : decode cc (pc + 4) = .ok (.iaload, 1))
    (kk : JJ p l e R s m args below meth c nL g ad Q χ T σ cells slots [(3, .int (nI i)), (2, v2), (1, v1), (0, .ref b)] (pc + 5) (.int (xs (i + k)) :: st)) : JJ p l e R s m args below meth c nL g ad Q χ T σ cells slots [(3, .int (nI i)), (2, v2), (1, v1), (0, .ref b)] pc st := by
  refine j_aload_n C 3 rfl rfl d0 ?_
  refine j_iload_n C 0 rfl rfl d1 ?_
  refine j_iconst (v := nI k) C (by unfold nI; rfl) d2 ?_
  refine j_iadd C d3 ?_
  rw [nI_add1]
  refine j_sld C hX hbl hbA (inB_nI (by omega) (by omega)) d4 ?_
  rw [nI_clamp (by omega)]
  exact kk
/-- a number as a truth -/
theorem j_sbool (C : Cx p s m args meth c cc nL own ret1 Ts g) {x : Int32} (d0 : decode cc pc = .ok (.ifCond .eq 7, 3)) (d1 : decode cc (pc + 3) = .ok (.iconst 1, 1)) (d2 : decode cc (pc + 4) = .ok (.goto 4, 3)) (d3 : decode cc (pc + 7) = .ok (.iconst 0, 1))
    (kk : JJ p l e R s m args below meth c nL g ad Q χ T σ cells slots L0 (pc + 8) (.int (if x = 0 then 0 else 1) :: st)) : JJ p l e R s m args below meth c nL g ad Q χ T σ cells slots L0 pc (.int x :: st) := by
  refine j_if_eq (tgt := pc + 7) C (by omega) d0 (fun hc => ?_) (fun hc => ?_)
  · rw [if_pos hc] at kk
    exact j_iconst (v := 0) C (by decide) d3 kk
  · rw [if_neg hc] at kk
    refine j_iconst (v := 1) C (by decide) d1 ?_
    exact j_goto (tgt := pc + 8) C (by omega) d2 kk
end LAW
set_option maxRecDepth 100000 in
set_option maxHeartbeats 4000000 in
theorem law_c0 {p : Program} {l : Launch} {e : Env} {s : State} {m : MethodId} {below : List Frame} {meth : Method} {c : Code} {Q : State → Prop} {g : Gc} {ad : Nat → Nat → Nat} {χ : Mem} {T : Nat → Mem} {σ : Mem} {χ' : Mem} {T' : Nat → Mem} {σ' : Mem} {cells slots b L i : Nat} {xs : Nat → Int32} (C : Cx p s m #[.ref b] meth c cL_law 4 R_law ret COM g) (hX : va_X b L xs s s.heap) (hbl : b < s.heap.size) (hbA : ¬ geB g b) (hi : i + 5 ≤ L) (hL : L ≤ 2560) (hc : cells + 82 ≤ 600000) (hsl : slots + 1707 ≤ 7302250) {v : Int32} (h1 : f_X10_pin χ T (xs (i + 1)) (xs (i + 2)) = some ((χ', T'), v)) (h2 : f_X11_pin σ (xs (i + 1)) (xs (i + 2)) = some (σ', v))
    (kk : ∀ ad' : Nat → Nat → Nat, JJ p l e room_1 s m #[.ref b] below meth c 4 g ad' Q χ' T' σ' (cells + 82 + 0) (slots + 1707 + 0) [(3, .int (nI i)), (2, .ref (ad' 30 0)), (1, .ref (ad' 0 0)), (0, .ref b)] 844 []) : JJ p l e room_1 s m #[.ref b] below meth c 4 g ad Q χ T σ cells slots [(3, .int (nI i)), (2, .ref (ad 30 0)), (1, .ref (ad 0 0)), (0, .ref b)] 140 [] := by
  refine j_aload_n C 2 rfl rfl dL_law_140 ?_
  refine j_sarg C hX hbl hbA (k := 1) (by decide) hi hL dL_law_141 dL_law_142 dL_law_143 dL_law_144 dL_law_145 ?_
  refine j_sarg C hX hbl hbA (k := 2) (by decide) hi hL dL_law_146 dL_law_147 dL_law_148 dL_law_149 dL_law_150 ?_
  refine j_callEi (As := [.int (xs (i + 1)), .int (xs (i + 2))]) (rest := []) C (c_X10_pin h1) (cwV 2 C.ts (good_V mw_284 mw_285 mw_286 mw_63 mw_287) rfl rfl rfl (by decide +kernel) ⟨(Nat.le_of_ble_eq_true rfl), (Nat.le_of_ble_eq_true rfl)⟩) (fun H hW => CW.rv C.k hW (by decide) cw_0 rfl) rfl rfl (Nat.le_of_ble_eq_true rfl) dL_law_151 ⟨(by show cells + 82 ≤ 600000; omega), (by show slots + 1707 ≤ 7302250; omega)⟩ (fun ad1 hx => ?_)
  refine j_re (L' := [(3, .int (nI i)), (2, .ref (ad1 30 0)), (1, .ref (ad1 0 0)), (0, .ref b)]) (st' := [.int v]) (by rw [hx.lo (k := 30) (i := 0) (by decide), hx.lo (k := 0) (i := 0) (by decide)]) rfl ?_
  refine j_aload_n C 1 rfl rfl dL_law_154 ?_
  refine j_sarg C hX hbl hbA (k := 1) (by decide) hi hL dL_law_155 dL_law_156 dL_law_157 dL_law_158 dL_law_159 ?_
  refine j_sarg C hX hbl hbA (k := 2) (by decide) hi hL dL_law_160 dL_law_161 dL_law_162 dL_law_163 dL_law_164 ?_
  refine j_callVi (As := [.int (xs (i + 1)), .int (xs (i + 2))]) (rest := [.int v]) C (c_X11_pin h2) (cwV 2 C.ts (good_V mw_1102 mw_1103 mw_1104 mw_73 mw_1105) rfl rfl rfl (by decide +kernel) ⟨(Nat.le_of_ble_eq_true rfl), (Nat.le_of_ble_eq_true rfl)⟩) (fun H hW => CW.rv C.k hW (by decide) cw_30 rfl) rfl rfl (Nat.le_of_ble_eq_true rfl) dL_law_165 ⟨(by show cells + 82 + 0 ≤ 600000; omega), (by show slots + 1707 + 0 ≤ 7302250; omega)⟩ ?_
  exact j_icmp_eq (tgt := 844) C (by decide) dL_law_168 (fun _ => kk _) (fun hc => absurd rfl hc)
set_option maxRecDepth 100000 in
set_option maxHeartbeats 4000000 in
theorem law_c1 {p : Program} {l : Launch} {e : Env} {s : State} {m : MethodId} {below : List Frame} {meth : Method} {c : Code} {Q : State → Prop} {g : Gc} {ad : Nat → Nat → Nat} {χ : Mem} {T : Nat → Mem} {σ : Mem} {χ' : Mem} {T' : Nat → Mem} {σ' : Mem} {cells slots b L i : Nat} {xs : Nat → Int32} (C : Cx p s m #[.ref b] meth c cL_law 4 R_law ret COM g) (hX : va_X b L xs s s.heap) (hbl : b < s.heap.size) (hbA : ¬ geB g b) (hi : i + 5 ≤ L) (hL : L ≤ 2560) (hc : cells + 82 ≤ 600000) (hsl : slots + 1707 ≤ 7302250) {v : Int32} (h1 : f_X10_move χ T (xs (i + 1)) (xs (i + 2)) (xs (i + 3)) = some ((χ', T'), v)) (h2 : f_X11_move σ (xs (i + 1)) (xs (i + 2)) (xs (i + 3)) = some (σ', v))
    (kk : ∀ ad' : Nat → Nat → Nat, JJ p l e room_1 s m #[.ref b] below meth c 4 g ad' Q χ' T' σ' (cells + 80 + 0) (slots + 1680 + 0) [(3, .int (nI i)), (2, .ref (ad' 30 0)), (1, .ref (ad' 0 0)), (0, .ref b)] 844 []) : JJ p l e room_1 s m #[.ref b] below meth c 4 g ad Q χ T σ cells slots [(3, .int (nI i)), (2, .ref (ad 30 0)), (1, .ref (ad 0 0)), (0, .ref b)] 173 [] := by
  refine j_aload_n C 2 rfl rfl dL_law_173 ?_
  refine j_sarg C hX hbl hbA (k := 1) (by decide) hi hL dL_law_174 dL_law_175 dL_law_176 dL_law_177 dL_law_178 ?_
  refine j_sarg C hX hbl hbA (k := 2) (by decide) hi hL dL_law_179 dL_law_180 dL_law_181 dL_law_182 dL_law_183 ?_
  refine j_sarg C hX hbl hbA (k := 3) (by decide) hi hL dL_law_184 dL_law_185 dL_law_186 dL_law_187 dL_law_188 ?_
  refine j_callVi (As := [.int (xs (i + 1)), .int (xs (i + 2)), .int (xs (i + 3))]) (rest := []) C (c_X10_move h1) (cwV 3 C.ts (good_V mw_611 mw_612 mw_613 mw_63 mw_614) rfl rfl rfl (by decide +kernel) ⟨(Nat.le_of_ble_eq_true rfl), (Nat.le_of_ble_eq_true rfl)⟩) (fun H hW => CW.rv C.k hW (by decide) cw_0 rfl) rfl rfl (Nat.le_of_ble_eq_true rfl) dL_law_189 ⟨(by show cells + 80 ≤ 600000; omega), (by show slots + 1680 ≤ 7302250; omega)⟩ ?_
  refine j_aload_n C 1 rfl rfl dL_law_192 ?_
  refine j_sarg C hX hbl hbA (k := 1) (by decide) hi hL dL_law_193 dL_law_194 dL_law_195 dL_law_196 dL_law_197 ?_
  refine j_sarg C hX hbl hbA (k := 2) (by decide) hi hL dL_law_198 dL_law_199 dL_law_200 dL_law_201 dL_law_202 ?_
  refine j_sarg C hX hbl hbA (k := 3) (by decide) hi hL dL_law_203 dL_law_204 dL_law_205 dL_law_206 dL_law_207 ?_
  refine j_callVi (As := [.int (xs (i + 1)), .int (xs (i + 2)), .int (xs (i + 3))]) (rest := [.int v]) C (c_X11_move h2) (cwV 3 C.ts (good_V mw_1113 mw_1114 mw_1115 mw_73 mw_1116) rfl rfl rfl (by decide +kernel) ⟨(Nat.le_of_ble_eq_true rfl), (Nat.le_of_ble_eq_true rfl)⟩) (fun H hW => CW.rv C.k hW (by decide) cw_30 rfl) rfl rfl (Nat.le_of_ble_eq_true rfl) dL_law_208 ⟨(by show cells + 80 + 0 ≤ 600000; omega), (by show slots + 1680 + 0 ≤ 7302250; omega)⟩ ?_
  exact j_icmp_eq (tgt := 844) C (by decide) dL_law_211 (fun _ => kk _) (fun hc => absurd rfl hc)
set_option maxRecDepth 100000 in
set_option maxHeartbeats 4000000 in
theorem law_c2 {p : Program} {l : Launch} {e : Env} {s : State} {m : MethodId} {below : List Frame} {meth : Method} {c : Code} {Q : State → Prop} {g : Gc} {ad : Nat → Nat → Nat} {χ : Mem} {T : Nat → Mem} {σ : Mem} {χ' : Mem} {T' : Nat → Mem} {σ' : Mem} {cells slots b L i : Nat} {xs : Nat → Int32} (C : Cx p s m #[.ref b] meth c cL_law 4 R_law ret COM g) (hX : va_X b L xs s s.heap) (hbl : b < s.heap.size) (hbA : ¬ geB g b) (hi : i + 5 ≤ L) (hL : L ≤ 2560) (hc : cells + 82 ≤ 600000) (hsl : slots + 1707 ≤ 7302250) {v : Int32} (h1 : f_X10_hold χ T (xs (i + 1)) (if (xs (i + 2)) = 0 then 0 else 1) = some ((χ', T'), v)) (h2 : f_X11_hold σ (xs (i + 1)) (if (xs (i + 2)) = 0 then 0 else 1) = some (σ', v))
    (kk : ∀ ad' : Nat → Nat → Nat, JJ p l e room_1 s m #[.ref b] below meth c 4 g ad' Q χ' T' σ' (cells + 80 + 0) (slots + 1680 + 0) [(3, .int (nI i)), (2, .ref (ad' 30 0)), (1, .ref (ad' 0 0)), (0, .ref b)] 844 []) : JJ p l e room_1 s m #[.ref b] below meth c 4 g ad Q χ T σ cells slots [(3, .int (nI i)), (2, .ref (ad 30 0)), (1, .ref (ad 0 0)), (0, .ref b)] 216 [] := by
  refine j_aload_n C 2 rfl rfl dL_law_216 ?_
  refine j_sarg C hX hbl hbA (k := 1) (by decide) hi hL dL_law_217 dL_law_218 dL_law_219 dL_law_220 dL_law_221 ?_
  refine j_sarg C hX hbl hbA (k := 2) (by decide) hi hL dL_law_222 dL_law_223 dL_law_224 dL_law_225 dL_law_226 ?_
  refine j_sbool C dL_law_227 dL_law_230 dL_law_231 dL_law_234 ?_
  refine j_callVi (As := [.int (xs (i + 1)), .int (if (xs (i + 2)) = 0 then 0 else 1)]) (rest := []) C (c_X10_hold h1) (cwV 2 C.ts (good_V mw_621 mw_622 mw_623 mw_63 mw_624) rfl rfl rfl (by decide +kernel) ⟨(Nat.le_of_ble_eq_true rfl), (Nat.le_of_ble_eq_true rfl)⟩) (fun H hW => CW.rv C.k hW (by decide) cw_0 rfl) rfl rfl (Nat.le_of_ble_eq_true rfl) dL_law_235 ⟨(by show cells + 80 ≤ 600000; omega), (by show slots + 1680 ≤ 7302250; omega)⟩ ?_
  refine j_aload_n C 1 rfl rfl dL_law_238 ?_
  refine j_sarg C hX hbl hbA (k := 1) (by decide) hi hL dL_law_239 dL_law_240 dL_law_241 dL_law_242 dL_law_243 ?_
  refine j_sarg C hX hbl hbA (k := 2) (by decide) hi hL dL_law_244 dL_law_245 dL_law_246 dL_law_247 dL_law_248 ?_
  refine j_sbool C dL_law_249 dL_law_252 dL_law_253 dL_law_256 ?_
  refine j_callVi (As := [.int (xs (i + 1)), .int (if (xs (i + 2)) = 0 then 0 else 1)]) (rest := [.int v]) C (c_X11_hold h2) (cwV 2 C.ts (good_V mw_1121 mw_1122 mw_1123 mw_73 mw_1124) rfl rfl rfl (by decide +kernel) ⟨(Nat.le_of_ble_eq_true rfl), (Nat.le_of_ble_eq_true rfl)⟩) (fun H hW => CW.rv C.k hW (by decide) cw_30 rfl) rfl rfl (Nat.le_of_ble_eq_true rfl) dL_law_257 ⟨(by show cells + 80 + 0 ≤ 600000; omega), (by show slots + 1680 + 0 ≤ 7302250; omega)⟩ ?_
  exact j_icmp_eq (tgt := 844) C (by decide) dL_law_260 (fun _ => kk _) (fun hc => absurd rfl hc)
set_option maxRecDepth 100000 in
set_option maxHeartbeats 4000000 in
theorem law_c3 {p : Program} {l : Launch} {e : Env} {s : State} {m : MethodId} {below : List Frame} {meth : Method} {c : Code} {Q : State → Prop} {g : Gc} {ad : Nat → Nat → Nat} {χ : Mem} {T : Nat → Mem} {σ : Mem} {χ' : Mem} {T' : Nat → Mem} {σ' : Mem} {cells slots b L i : Nat} {xs : Nat → Int32} (C : Cx p s m #[.ref b] meth c cL_law 4 R_law ret COM g) (hX : va_X b L xs s s.heap) (hbl : b < s.heap.size) (hbA : ¬ geB g b) (hi : i + 5 ≤ L) (hL : L ≤ 2560) (hc : cells + 82 ≤ 600000) (hsl : slots + 1707 ≤ 7302250) {v : Int32} (h1 : f_X10_rod χ T (xs (i + 1)) (xs (i + 2)) (xs (i + 3)) (xs (i + 4)) = some ((χ', T'), v)) (h2 : f_X11_rod σ (xs (i + 1)) (xs (i + 2)) (xs (i + 3)) (xs (i + 4)) = some (σ', v))
    (kk : ∀ ad' : Nat → Nat → Nat, JJ p l e room_1 s m #[.ref b] below meth c 4 g ad' Q χ' T' σ' (cells + 82 + 0) (slots + 1707 + 0) [(3, .int (nI i)), (2, .ref (ad' 30 0)), (1, .ref (ad' 0 0)), (0, .ref b)] 844 []) : JJ p l e room_1 s m #[.ref b] below meth c 4 g ad Q χ T σ cells slots [(3, .int (nI i)), (2, .ref (ad 30 0)), (1, .ref (ad 0 0)), (0, .ref b)] 265 [] := by
  refine j_aload_n C 2 rfl rfl dL_law_265 ?_
  refine j_sarg C hX hbl hbA (k := 1) (by decide) hi hL dL_law_266 dL_law_267 dL_law_268 dL_law_269 dL_law_270 ?_
  refine j_sarg C hX hbl hbA (k := 2) (by decide) hi hL dL_law_271 dL_law_272 dL_law_273 dL_law_274 dL_law_275 ?_
  refine j_sarg C hX hbl hbA (k := 3) (by decide) hi hL dL_law_276 dL_law_277 dL_law_278 dL_law_279 dL_law_280 ?_
  refine j_sarg C hX hbl hbA (k := 4) (by decide) hi hL dL_law_281 dL_law_282 dL_law_283 dL_law_284 dL_law_285 ?_
  refine j_callEi (As := [.int (xs (i + 1)), .int (xs (i + 2)), .int (xs (i + 3)), .int (xs (i + 4))]) (rest := []) C (c_X10_rod h1) (cwV 4 C.ts (good_V mw_625 mw_626 mw_627 mw_63 mw_628) rfl rfl rfl (by decide +kernel) ⟨(Nat.le_of_ble_eq_true rfl), (Nat.le_of_ble_eq_true rfl)⟩) (fun H hW => CW.rv C.k hW (by decide) cw_0 rfl) rfl rfl (Nat.le_of_ble_eq_true rfl) dL_law_286 ⟨(by show cells + 82 ≤ 600000; omega), (by show slots + 1707 ≤ 7302250; omega)⟩ (fun ad1 hx => ?_)
  refine j_re (L' := [(3, .int (nI i)), (2, .ref (ad1 30 0)), (1, .ref (ad1 0 0)), (0, .ref b)]) (st' := [.int v]) (by rw [hx.lo (k := 30) (i := 0) (by decide), hx.lo (k := 0) (i := 0) (by decide)]) rfl ?_
  refine j_aload_n C 1 rfl rfl dL_law_289 ?_
  refine j_sarg C hX hbl hbA (k := 1) (by decide) hi hL dL_law_290 dL_law_291 dL_law_292 dL_law_293 dL_law_294 ?_
  refine j_sarg C hX hbl hbA (k := 2) (by decide) hi hL dL_law_295 dL_law_296 dL_law_297 dL_law_298 dL_law_299 ?_
  refine j_sarg C hX hbl hbA (k := 3) (by decide) hi hL dL_law_300 dL_law_301 dL_law_302 dL_law_303 dL_law_304 ?_
  refine j_sarg C hX hbl hbA (k := 4) (by decide) hi hL dL_law_305 dL_law_306 dL_law_307 dL_law_308 dL_law_309 ?_
  refine j_callVi (As := [.int (xs (i + 1)), .int (xs (i + 2)), .int (xs (i + 3)), .int (xs (i + 4))]) (rest := [.int v]) C (c_X11_rod h2) (cwV 4 C.ts (good_V mw_1125 mw_1126 mw_1127 mw_73 mw_1128) rfl rfl rfl (by decide +kernel) ⟨(Nat.le_of_ble_eq_true rfl), (Nat.le_of_ble_eq_true rfl)⟩) (fun H hW => CW.rv C.k hW (by decide) cw_30 rfl) rfl rfl (Nat.le_of_ble_eq_true rfl) dL_law_310 ⟨(by show cells + 82 + 0 ≤ 600000; omega), (by show slots + 1707 + 0 ≤ 7302250; omega)⟩ ?_
  exact j_icmp_eq (tgt := 844) C (by decide) dL_law_313 (fun _ => kk _) (fun hc => absurd rfl hc)
set_option maxRecDepth 100000 in
set_option maxHeartbeats 4000000 in
theorem law_c4 {p : Program} {l : Launch} {e : Env} {s : State} {m : MethodId} {below : List Frame} {meth : Method} {c : Code} {Q : State → Prop} {g : Gc} {ad : Nat → Nat → Nat} {χ : Mem} {T : Nat → Mem} {σ : Mem} {χ' : Mem} {T' : Nat → Mem} {σ' : Mem} {cells slots b L i : Nat} {xs : Nat → Int32} (C : Cx p s m #[.ref b] meth c cL_law 4 R_law ret COM g) (hX : va_X b L xs s s.heap) (hbl : b < s.heap.size) (hbA : ¬ geB g b) (hi : i + 5 ≤ L) (hL : L ≤ 2560) (hc : cells + 82 ≤ 600000) (hsl : slots + 1707 ≤ 7302250) {v : Int32} (h1 : f_X10_put χ T (xs (i + 1)) (if (xs (i + 2)) = 0 then 0 else 1) = some ((χ', T'), v)) (h2 : f_X11_put σ (xs (i + 1)) (if (xs (i + 2)) = 0 then 0 else 1) = some (σ', v))
    (kk : ∀ ad' : Nat → Nat → Nat, JJ p l e room_1 s m #[.ref b] below meth c 4 g ad' Q χ' T' σ' (cells + 80 + 0) (slots + 1680 + 0) [(3, .int (nI i)), (2, .ref (ad' 30 0)), (1, .ref (ad' 0 0)), (0, .ref b)] 844 []) : JJ p l e room_1 s m #[.ref b] below meth c 4 g ad Q χ T σ cells slots [(3, .int (nI i)), (2, .ref (ad 30 0)), (1, .ref (ad 0 0)), (0, .ref b)] 318 [] := by
  refine j_aload_n C 2 rfl rfl dL_law_318 ?_
  refine j_sarg C hX hbl hbA (k := 1) (by decide) hi hL dL_law_319 dL_law_320 dL_law_321 dL_law_322 dL_law_323 ?_
  refine j_sarg C hX hbl hbA (k := 2) (by decide) hi hL dL_law_324 dL_law_325 dL_law_326 dL_law_327 dL_law_328 ?_
  refine j_sbool C dL_law_329 dL_law_332 dL_law_333 dL_law_336 ?_
  refine j_callVi (As := [.int (xs (i + 1)), .int (if (xs (i + 2)) = 0 then 0 else 1)]) (rest := []) C (c_X10_put h1) (cwV 2 C.ts (good_V mw_680 mw_681 mw_682 mw_63 mw_683) rfl rfl rfl (by decide +kernel) ⟨(Nat.le_of_ble_eq_true rfl), (Nat.le_of_ble_eq_true rfl)⟩) (fun H hW => CW.rv C.k hW (by decide) cw_0 rfl) rfl rfl (Nat.le_of_ble_eq_true rfl) dL_law_337 ⟨(by show cells + 80 ≤ 600000; omega), (by show slots + 1680 ≤ 7302250; omega)⟩ ?_
  refine j_aload_n C 1 rfl rfl dL_law_340 ?_
  refine j_sarg C hX hbl hbA (k := 1) (by decide) hi hL dL_law_341 dL_law_342 dL_law_343 dL_law_344 dL_law_345 ?_
  refine j_sarg C hX hbl hbA (k := 2) (by decide) hi hL dL_law_346 dL_law_347 dL_law_348 dL_law_349 dL_law_350 ?_
  refine j_sbool C dL_law_351 dL_law_354 dL_law_355 dL_law_358 ?_
  refine j_callVi (As := [.int (xs (i + 1)), .int (if (xs (i + 2)) = 0 then 0 else 1)]) (rest := [.int v]) C (c_X11_put h2) (cwV 2 C.ts (good_V mw_1129 mw_1130 mw_1131 mw_73 mw_1132) rfl rfl rfl (by decide +kernel) ⟨(Nat.le_of_ble_eq_true rfl), (Nat.le_of_ble_eq_true rfl)⟩) (fun H hW => CW.rv C.k hW (by decide) cw_30 rfl) rfl rfl (Nat.le_of_ble_eq_true rfl) dL_law_359 ⟨(by show cells + 80 + 0 ≤ 600000; omega), (by show slots + 1680 + 0 ≤ 7302250; omega)⟩ ?_
  exact j_icmp_eq (tgt := 844) C (by decide) dL_law_362 (fun _ => kk _) (fun hc => absurd rfl hc)
set_option maxRecDepth 100000 in
set_option maxHeartbeats 4000000 in
theorem law_c5 {p : Program} {l : Launch} {e : Env} {s : State} {m : MethodId} {below : List Frame} {meth : Method} {c : Code} {Q : State → Prop} {g : Gc} {ad : Nat → Nat → Nat} {χ : Mem} {T : Nat → Mem} {σ : Mem} {σ' : Mem} {cells slots b L i : Nat} {xs : Nat → Int32} (C : Cx p s m #[.ref b] meth c cL_law 4 R_law ret COM g) (hX : va_X b L xs s s.heap) (hbl : b < s.heap.size) (hbA : ¬ geB g b) (hi : i + 5 ≤ L) (hL : L ≤ 2560) (hc : cells + 82 ≤ 600000) (hsl : slots + 1707 ≤ 7302250) {v : Int32} (h1 : f_X10_count χ T (xs (i + 1)) = some v) (h2 : f_X11_count σ (xs (i + 1)) = some (σ', v))
    (kk : ∀ ad' : Nat → Nat → Nat, JJ p l e room_1 s m #[.ref b] below meth c 4 g ad' Q χ T σ' (cells + 0 + 0) (slots + 0 + 0) [(3, .int (nI i)), (2, .ref (ad' 30 0)), (1, .ref (ad' 0 0)), (0, .ref b)] 844 []) : JJ p l e room_1 s m #[.ref b] below meth c 4 g ad Q χ T σ cells slots [(3, .int (nI i)), (2, .ref (ad 30 0)), (1, .ref (ad 0 0)), (0, .ref b)] 367 [] := by
  refine j_aload_n C 2 rfl rfl dL_law_367 ?_
  refine j_sarg C hX hbl hbA (k := 1) (by decide) hi hL dL_law_368 dL_law_369 dL_law_370 dL_law_371 dL_law_372 ?_
  refine j_callVi (As := [.int (xs (i + 1))]) (rest := []) C (c_X10_count h1) (cwV 1 C.ts (good_V mw_692 mw_693 mw_694 mw_63 mw_695) rfl rfl rfl (by decide +kernel) ⟨(Nat.le_of_ble_eq_true rfl), (Nat.le_of_ble_eq_true rfl)⟩) (fun H hW => CW.rv C.k hW (by decide) cw_0 rfl) rfl rfl (Nat.le_of_ble_eq_true rfl) dL_law_373 ⟨(by show cells + 0 ≤ 600000; omega), (by show slots + 0 ≤ 7302250; omega)⟩ ?_
  refine j_aload_n C 1 rfl rfl dL_law_376 ?_
  refine j_sarg C hX hbl hbA (k := 1) (by decide) hi hL dL_law_377 dL_law_378 dL_law_379 dL_law_380 dL_law_381 ?_
  refine j_callVi (As := [.int (xs (i + 1))]) (rest := [.int v]) C (c_X11_count h2) (cwV 1 C.ts (good_V mw_1137 mw_1138 mw_1139 mw_73 mw_1140) rfl rfl rfl (by decide +kernel) ⟨(Nat.le_of_ble_eq_true rfl), (Nat.le_of_ble_eq_true rfl)⟩) (fun H hW => CW.rv C.k hW (by decide) cw_30 rfl) rfl rfl (Nat.le_of_ble_eq_true rfl) dL_law_382 ⟨(by show cells + 0 + 0 ≤ 600000; omega), (by show slots + 0 + 0 ≤ 7302250; omega)⟩ ?_
  exact j_icmp_eq (tgt := 844) C (by decide) dL_law_385 (fun _ => kk _) (fun hc => absurd rfl hc)
set_option maxRecDepth 100000 in
set_option maxHeartbeats 4000000 in
theorem law_c6 {p : Program} {l : Launch} {e : Env} {s : State} {m : MethodId} {below : List Frame} {meth : Method} {c : Code} {Q : State → Prop} {g : Gc} {ad : Nat → Nat → Nat} {χ : Mem} {T : Nat → Mem} {σ : Mem} {cells slots b L i : Nat} {xs : Nat → Int32} (C : Cx p s m #[.ref b] meth c cL_law 4 R_law ret COM g) (hX : va_X b L xs s s.heap) (hbl : b < s.heap.size) (hbA : ¬ geB g b) (hi : i + 5 ≤ L) (hL : L ≤ 2560) (hc : cells + 82 ≤ 600000) (hsl : slots + 1707 ≤ 7302250) {v : Int32} (h1 : f_X10_pinTold χ T (xs (i + 1)) (xs (i + 2)) = some v) (h2 : f_X11_pinTold σ (xs (i + 1)) (xs (i + 2)) = some v)
    (kk : ∀ ad' : Nat → Nat → Nat, JJ p l e room_1 s m #[.ref b] below meth c 4 g ad' Q χ T σ (cells + 0 + 0) (slots + 0 + 0) [(3, .int (nI i)), (2, .ref (ad' 30 0)), (1, .ref (ad' 0 0)), (0, .ref b)] 844 []) : JJ p l e room_1 s m #[.ref b] below meth c 4 g ad Q χ T σ cells slots [(3, .int (nI i)), (2, .ref (ad 30 0)), (1, .ref (ad 0 0)), (0, .ref b)] 390 [] := by
  refine j_aload_n C 2 rfl rfl dL_law_390 ?_
  refine j_sarg C hX hbl hbA (k := 1) (by decide) hi hL dL_law_391 dL_law_392 dL_law_393 dL_law_394 dL_law_395 ?_
  refine j_sarg C hX hbl hbA (k := 2) (by decide) hi hL dL_law_396 dL_law_397 dL_law_398 dL_law_399 dL_law_400 ?_
  refine j_callVi (As := [.int (xs (i + 1)), .int (xs (i + 2))]) (rest := []) C (c_X10_pinTold h1) (cwV 2 C.ts (good_V mw_741 mw_742 mw_743 mw_63 mw_744) rfl rfl rfl (by decide +kernel) ⟨(Nat.le_of_ble_eq_true rfl), (Nat.le_of_ble_eq_true rfl)⟩) (fun H hW => CW.rv C.k hW (by decide) cw_0 rfl) rfl rfl (Nat.le_of_ble_eq_true rfl) dL_law_401 ⟨(by show cells + 0 ≤ 600000; omega), (by show slots + 0 ≤ 7302250; omega)⟩ ?_
  refine j_aload_n C 1 rfl rfl dL_law_404 ?_
  refine j_sarg C hX hbl hbA (k := 1) (by decide) hi hL dL_law_405 dL_law_406 dL_law_407 dL_law_408 dL_law_409 ?_
  refine j_sarg C hX hbl hbA (k := 2) (by decide) hi hL dL_law_410 dL_law_411 dL_law_412 dL_law_413 dL_law_414 ?_
  refine j_callVi (As := [.int (xs (i + 1)), .int (xs (i + 2))]) (rest := [.int v]) C (c_X11_pinTold h2) (cwV 2 C.ts (good_V mw_1219 mw_1220 mw_1221 mw_73 mw_1222) rfl rfl rfl (by decide +kernel) ⟨(Nat.le_of_ble_eq_true rfl), (Nat.le_of_ble_eq_true rfl)⟩) (fun H hW => CW.rv C.k hW (by decide) cw_30 rfl) rfl rfl (Nat.le_of_ble_eq_true rfl) dL_law_415 ⟨(by show cells + 0 + 0 ≤ 600000; omega), (by show slots + 0 + 0 ≤ 7302250; omega)⟩ ?_
  exact j_icmp_eq (tgt := 844) C (by decide) dL_law_418 (fun _ => kk _) (fun hc => absurd rfl hc)
set_option maxRecDepth 100000 in
set_option maxHeartbeats 4000000 in
theorem law_c7 {p : Program} {l : Launch} {e : Env} {s : State} {m : MethodId} {below : List Frame} {meth : Method} {c : Code} {Q : State → Prop} {g : Gc} {ad : Nat → Nat → Nat} {χ : Mem} {T : Nat → Mem} {σ : Mem} {σ' : Mem} {cells slots b L i : Nat} {xs : Nat → Int32} (C : Cx p s m #[.ref b] meth c cL_law 4 R_law ret COM g) (hX : va_X b L xs s s.heap) (hbl : b < s.heap.size) (hbA : ¬ geB g b) (hi : i + 5 ≤ L) (hL : L ≤ 2560) (hc : cells + 82 ≤ 600000) (hsl : slots + 1707 ≤ 7302250) {v : Int32} (h1 : f_X10_rodTold χ T (xs (i + 1)) (xs (i + 2)) = some v) (h2 : f_X11_rodTold σ (xs (i + 1)) (xs (i + 2)) = some (σ', v))
    (kk : ∀ ad' : Nat → Nat → Nat, JJ p l e room_1 s m #[.ref b] below meth c 4 g ad' Q χ T σ' (cells + 0 + 0) (slots + 0 + 0) [(3, .int (nI i)), (2, .ref (ad' 30 0)), (1, .ref (ad' 0 0)), (0, .ref b)] 844 []) : JJ p l e room_1 s m #[.ref b] below meth c 4 g ad Q χ T σ cells slots [(3, .int (nI i)), (2, .ref (ad 30 0)), (1, .ref (ad 0 0)), (0, .ref b)] 423 [] := by
  refine j_aload_n C 2 rfl rfl dL_law_423 ?_
  refine j_sarg C hX hbl hbA (k := 1) (by decide) hi hL dL_law_424 dL_law_425 dL_law_426 dL_law_427 dL_law_428 ?_
  refine j_sarg C hX hbl hbA (k := 2) (by decide) hi hL dL_law_429 dL_law_430 dL_law_431 dL_law_432 dL_law_433 ?_
  refine j_callVi (As := [.int (xs (i + 1)), .int (xs (i + 2))]) (rest := []) C (c_X10_rodTold h1) (cwV 2 C.ts (good_V mw_750 mw_751 mw_752 mw_63 mw_753) rfl rfl rfl (by decide +kernel) ⟨(Nat.le_of_ble_eq_true rfl), (Nat.le_of_ble_eq_true rfl)⟩) (fun H hW => CW.rv C.k hW (by decide) cw_0 rfl) rfl rfl (Nat.le_of_ble_eq_true rfl) dL_law_434 ⟨(by show cells + 0 ≤ 600000; omega), (by show slots + 0 ≤ 7302250; omega)⟩ ?_
  refine j_aload_n C 1 rfl rfl dL_law_437 ?_
  refine j_sarg C hX hbl hbA (k := 1) (by decide) hi hL dL_law_438 dL_law_439 dL_law_440 dL_law_441 dL_law_442 ?_
  refine j_sarg C hX hbl hbA (k := 2) (by decide) hi hL dL_law_443 dL_law_444 dL_law_445 dL_law_446 dL_law_447 ?_
  refine j_callVi (As := [.int (xs (i + 1)), .int (xs (i + 2))]) (rest := [.int v]) C (c_X11_rodTold h2) (cwV 2 C.ts (good_V mw_1223 mw_1224 mw_1225 mw_73 mw_1226) rfl rfl rfl (by decide +kernel) ⟨(Nat.le_of_ble_eq_true rfl), (Nat.le_of_ble_eq_true rfl)⟩) (fun H hW => CW.rv C.k hW (by decide) cw_30 rfl) rfl rfl (Nat.le_of_ble_eq_true rfl) dL_law_448 ⟨(by show cells + 0 + 0 ≤ 600000; omega), (by show slots + 0 + 0 ≤ 7302250; omega)⟩ ?_
  exact j_icmp_eq (tgt := 844) C (by decide) dL_law_451 (fun _ => kk _) (fun hc => absurd rfl hc)
set_option maxRecDepth 100000 in
set_option maxHeartbeats 4000000 in
theorem law_c8 {p : Program} {l : Launch} {e : Env} {s : State} {m : MethodId} {below : List Frame} {meth : Method} {c : Code} {Q : State → Prop} {g : Gc} {ad : Nat → Nat → Nat} {χ : Mem} {T : Nat → Mem} {σ : Mem} {σ' : Mem} {cells slots b L i : Nat} {xs : Nat → Int32} (C : Cx p s m #[.ref b] meth c cL_law 4 R_law ret COM g) (hX : va_X b L xs s s.heap) (hbl : b < s.heap.size) (hbA : ¬ geB g b) (hi : i + 5 ≤ L) (hL : L ≤ 2560) (hc : cells + 82 ≤ 600000) (hsl : slots + 1707 ≤ 7302250) {v : Int64} (h1 : f_X10_motion χ T (xs (i + 1)) (xs (i + 2)) (xs (i + 3)) = some v) (h2 : f_X11_motion σ (xs (i + 1)) (xs (i + 2)) (xs (i + 3)) = some (σ', v))
    (kk : ∀ ad' : Nat → Nat → Nat, JJ p l e room_1 s m #[.ref b] below meth c 4 g ad' Q χ T σ' (cells + 0 + 0) (slots + 0 + 0) [(3, .int (nI i)), (2, .ref (ad' 30 0)), (1, .ref (ad' 0 0)), (0, .ref b)] 844 []) : JJ p l e room_1 s m #[.ref b] below meth c 4 g ad Q χ T σ cells slots [(3, .int (nI i)), (2, .ref (ad 30 0)), (1, .ref (ad 0 0)), (0, .ref b)] 456 [] := by
  refine j_aload_n C 2 rfl rfl dL_law_456 ?_
  refine j_sarg C hX hbl hbA (k := 1) (by decide) hi hL dL_law_457 dL_law_458 dL_law_459 dL_law_460 dL_law_461 ?_
  refine j_sarg C hX hbl hbA (k := 2) (by decide) hi hL dL_law_462 dL_law_463 dL_law_464 dL_law_465 dL_law_466 ?_
  refine j_sarg C hX hbl hbA (k := 3) (by decide) hi hL dL_law_467 dL_law_468 dL_law_469 dL_law_470 dL_law_471 ?_
  refine j_callVl (As := [.int (xs (i + 1)), .int (xs (i + 2)), .int (xs (i + 3))]) (rest := []) C (c_X10_motion h1) (cwV 3 C.ts (good_V mw_758 mw_759 mw_760 mw_63 mw_761) rfl rfl rfl (by decide +kernel) ⟨(Nat.le_of_ble_eq_true rfl), (Nat.le_of_ble_eq_true rfl)⟩) (fun H hW => CW.rv C.k hW (by decide) cw_0 rfl) rfl rfl (Nat.le_of_ble_eq_true rfl) dL_law_472 ⟨(by show cells + 0 ≤ 600000; omega), (by show slots + 0 ≤ 7302250; omega)⟩ ?_
  refine j_aload_n C 1 rfl rfl dL_law_475 ?_
  refine j_sarg C hX hbl hbA (k := 1) (by decide) hi hL dL_law_476 dL_law_477 dL_law_478 dL_law_479 dL_law_480 ?_
  refine j_sarg C hX hbl hbA (k := 2) (by decide) hi hL dL_law_481 dL_law_482 dL_law_483 dL_law_484 dL_law_485 ?_
  refine j_sarg C hX hbl hbA (k := 3) (by decide) hi hL dL_law_486 dL_law_487 dL_law_488 dL_law_489 dL_law_490 ?_
  refine j_callVl (As := [.int (xs (i + 1)), .int (xs (i + 2)), .int (xs (i + 3))]) (rest := [.long v]) C (c_X11_motion h2) (cwV 3 C.ts (good_V mw_1227 mw_1228 mw_1229 mw_73 mw_1230) rfl rfl rfl (by decide +kernel) ⟨(Nat.le_of_ble_eq_true rfl), (Nat.le_of_ble_eq_true rfl)⟩) (fun H hW => CW.rv C.k hW (by decide) cw_30 rfl) rfl rfl (Nat.le_of_ble_eq_true rfl) dL_law_491 ⟨(by show cells + 0 + 0 ≤ 600000; omega), (by show slots + 0 + 0 ≤ 7302250; omega)⟩ ?_
  exact j_lcmp_eq (tgt := 844) C dL_law_495 (by decide) dL_law_494 (fun _ => kk _) (fun hc => absurd rfl hc)
set_option maxRecDepth 100000 in
set_option maxHeartbeats 4000000 in
theorem law_c9 {p : Program} {l : Launch} {e : Env} {s : State} {m : MethodId} {below : List Frame} {meth : Method} {c : Code} {Q : State → Prop} {g : Gc} {ad : Nat → Nat → Nat} {χ : Mem} {T : Nat → Mem} {σ : Mem} {σ' : Mem} {cells slots b L i : Nat} {xs : Nat → Int32} (C : Cx p s m #[.ref b] meth c cL_law 4 R_law ret COM g) (hX : va_X b L xs s s.heap) (hbl : b < s.heap.size) (hbA : ¬ geB g b) (hi : i + 5 ≤ L) (hL : L ≤ 2560) (hc : cells + 82 ≤ 600000) (hsl : slots + 1707 ≤ 7302250) {v : Int64} (h1 : f_X10_stress χ T (xs (i + 1)) (xs (i + 2)) = some v) (h2 : f_X11_stress σ (xs (i + 1)) (xs (i + 2)) = some (σ', v))
    (kk : ∀ ad' : Nat → Nat → Nat, JJ p l e room_1 s m #[.ref b] below meth c 4 g ad' Q χ T σ' (cells + 0 + 0) (slots + 0 + 0) [(3, .int (nI i)), (2, .ref (ad' 30 0)), (1, .ref (ad' 0 0)), (0, .ref b)] 844 []) : JJ p l e room_1 s m #[.ref b] below meth c 4 g ad Q χ T σ cells slots [(3, .int (nI i)), (2, .ref (ad 30 0)), (1, .ref (ad 0 0)), (0, .ref b)] 500 [] := by
  refine j_aload_n C 2 rfl rfl dL_law_500 ?_
  refine j_sarg C hX hbl hbA (k := 1) (by decide) hi hL dL_law_501 dL_law_502 dL_law_503 dL_law_504 dL_law_505 ?_
  refine j_sarg C hX hbl hbA (k := 2) (by decide) hi hL dL_law_506 dL_law_507 dL_law_508 dL_law_509 dL_law_510 ?_
  refine j_callVl (As := [.int (xs (i + 1)), .int (xs (i + 2))]) (rest := []) C (c_X10_stress h1) (cwV 2 C.ts (good_V mw_772 mw_773 mw_774 mw_63 mw_775) rfl rfl rfl (by decide +kernel) ⟨(Nat.le_of_ble_eq_true rfl), (Nat.le_of_ble_eq_true rfl)⟩) (fun H hW => CW.rv C.k hW (by decide) cw_0 rfl) rfl rfl (Nat.le_of_ble_eq_true rfl) dL_law_511 ⟨(by show cells + 0 ≤ 600000; omega), (by show slots + 0 ≤ 7302250; omega)⟩ ?_
  refine j_aload_n C 1 rfl rfl dL_law_514 ?_
  refine j_sarg C hX hbl hbA (k := 1) (by decide) hi hL dL_law_515 dL_law_516 dL_law_517 dL_law_518 dL_law_519 ?_
  refine j_sarg C hX hbl hbA (k := 2) (by decide) hi hL dL_law_520 dL_law_521 dL_law_522 dL_law_523 dL_law_524 ?_
  refine j_callVl (As := [.int (xs (i + 1)), .int (xs (i + 2))]) (rest := [.long v]) C (c_X11_stress h2) (cwV 2 C.ts (good_V mw_1232 mw_1233 mw_1234 mw_73 mw_1235) rfl rfl rfl (by decide +kernel) ⟨(Nat.le_of_ble_eq_true rfl), (Nat.le_of_ble_eq_true rfl)⟩) (fun H hW => CW.rv C.k hW (by decide) cw_30 rfl) rfl rfl (Nat.le_of_ble_eq_true rfl) dL_law_525 ⟨(by show cells + 0 + 0 ≤ 600000; omega), (by show slots + 0 + 0 ≤ 7302250; omega)⟩ ?_
  exact j_lcmp_eq (tgt := 844) C dL_law_529 (by decide) dL_law_528 (fun _ => kk _) (fun hc => absurd rfl hc)
set_option maxRecDepth 100000 in
set_option maxHeartbeats 4000000 in
theorem law_c10 {p : Program} {l : Launch} {e : Env} {s : State} {m : MethodId} {below : List Frame} {meth : Method} {c : Code} {Q : State → Prop} {g : Gc} {ad : Nat → Nat → Nat} {χ : Mem} {T : Nat → Mem} {σ : Mem} {σ' : Mem} {cells slots b L i : Nat} {xs : Nat → Int32} (C : Cx p s m #[.ref b] meth c cL_law 4 R_law ret COM g) (hX : va_X b L xs s s.heap) (hbl : b < s.heap.size) (hbA : ¬ geB g b) (hi : i + 5 ≤ L) (hL : L ≤ 2560) (hc : cells + 82 ≤ 600000) (hsl : slots + 1707 ≤ 7302250) {v : Int32} (h1 : f_X10_stiff χ T = some v) (h2 : f_X11_stiff σ = some (σ', v))
    (kk : ∀ ad' : Nat → Nat → Nat, JJ p l e room_1 s m #[.ref b] below meth c 4 g ad' Q χ T σ' (cells + 0 + 0) (slots + 0 + 0) [(3, .int (nI i)), (2, .ref (ad' 30 0)), (1, .ref (ad' 0 0)), (0, .ref b)] 844 []) : JJ p l e room_1 s m #[.ref b] below meth c 4 g ad Q χ T σ cells slots [(3, .int (nI i)), (2, .ref (ad 30 0)), (1, .ref (ad 0 0)), (0, .ref b)] 534 [] := by
  refine j_aload_n C 2 rfl rfl dL_law_534 ?_
  refine j_callVi (As := []) (rest := []) C (c_X10_stiff h1) (cwV 0 C.ts (good_V mw_781 mw_782 mw_783 mw_63 mw_784) rfl rfl rfl (by decide +kernel) ⟨(Nat.le_of_ble_eq_true rfl), (Nat.le_of_ble_eq_true rfl)⟩) (fun H hW => CW.rv C.k hW (by decide) cw_0 rfl) rfl rfl (Nat.le_of_ble_eq_true rfl) dL_law_535 ⟨(by show cells + 0 ≤ 600000; omega), (by show slots + 0 ≤ 7302250; omega)⟩ ?_
  refine j_aload_n C 1 rfl rfl dL_law_538 ?_
  refine j_callVi (As := []) (rest := [.int v]) C (c_X11_stiff h2) (cwV 0 C.ts (good_V mw_1236 mw_1237 mw_1238 mw_73 mw_1239) rfl rfl rfl (by decide +kernel) ⟨(Nat.le_of_ble_eq_true rfl), (Nat.le_of_ble_eq_true rfl)⟩) (fun H hW => CW.rv C.k hW (by decide) cw_30 rfl) rfl rfl (Nat.le_of_ble_eq_true rfl) dL_law_539 ⟨(by show cells + 0 + 0 ≤ 600000; omega), (by show slots + 0 + 0 ≤ 7302250; omega)⟩ ?_
  exact j_icmp_eq (tgt := 844) C (by decide) dL_law_542 (fun _ => kk _) (fun hc => absurd rfl hc)
set_option maxRecDepth 100000 in
set_option maxHeartbeats 4000000 in
theorem law_c11 {p : Program} {l : Launch} {e : Env} {s : State} {m : MethodId} {below : List Frame} {meth : Method} {c : Code} {Q : State → Prop} {g : Gc} {ad : Nat → Nat → Nat} {χ : Mem} {T : Nat → Mem} {σ : Mem} {σ' : Mem} {cells slots b L i : Nat} {xs : Nat → Int32} (C : Cx p s m #[.ref b] meth c cL_law 4 R_law ret COM g) (hX : va_X b L xs s s.heap) (hbl : b < s.heap.size) (hbA : ¬ geB g b) (hi : i + 5 ≤ L) (hL : L ≤ 2560) (hc : cells + 82 ≤ 600000) (hsl : slots + 1707 ≤ 7302250) {v : Int32} (h1 : f_X10_tight χ T = some v) (h2 : f_X11_tight σ = some (σ', v))
    (kk : ∀ ad' : Nat → Nat → Nat, JJ p l e room_1 s m #[.ref b] below meth c 4 g ad' Q χ T σ' (cells + 0 + 0) (slots + 0 + 0) [(3, .int (nI i)), (2, .ref (ad' 30 0)), (1, .ref (ad' 0 0)), (0, .ref b)] 844 []) : JJ p l e room_1 s m #[.ref b] below meth c 4 g ad Q χ T σ cells slots [(3, .int (nI i)), (2, .ref (ad 30 0)), (1, .ref (ad 0 0)), (0, .ref b)] 547 [] := by
  refine j_aload_n C 2 rfl rfl dL_law_547 ?_
  refine j_callVi (As := []) (rest := []) C (c_X10_tight h1) (cwV 0 C.ts (good_V mw_789 mw_790 mw_791 mw_63 mw_792) rfl rfl rfl (by decide +kernel) ⟨(Nat.le_of_ble_eq_true rfl), (Nat.le_of_ble_eq_true rfl)⟩) (fun H hW => CW.rv C.k hW (by decide) cw_0 rfl) rfl rfl (Nat.le_of_ble_eq_true rfl) dL_law_548 ⟨(by show cells + 0 ≤ 600000; omega), (by show slots + 0 ≤ 7302250; omega)⟩ ?_
  refine j_aload_n C 1 rfl rfl dL_law_551 ?_
  refine j_callVi (As := []) (rest := [.int v]) C (c_X11_tight h2) (cwV 0 C.ts (good_V mw_1248 mw_1249 mw_1250 mw_73 mw_1251) rfl rfl rfl (by decide +kernel) ⟨(Nat.le_of_ble_eq_true rfl), (Nat.le_of_ble_eq_true rfl)⟩) (fun H hW => CW.rv C.k hW (by decide) cw_30 rfl) rfl rfl (Nat.le_of_ble_eq_true rfl) dL_law_552 ⟨(by show cells + 0 + 0 ≤ 600000; omega), (by show slots + 0 + 0 ≤ 7302250; omega)⟩ ?_
  exact j_icmp_eq (tgt := 844) C (by decide) dL_law_555 (fun _ => kk _) (fun hc => absurd rfl hc)
set_option maxRecDepth 100000 in
set_option maxHeartbeats 4000000 in
theorem law_c12 {p : Program} {l : Launch} {e : Env} {s : State} {m : MethodId} {below : List Frame} {meth : Method} {c : Code} {Q : State → Prop} {g : Gc} {ad : Nat → Nat → Nat} {χ : Mem} {T : Nat → Mem} {σ : Mem} {χ' : Mem} {T' : Nat → Mem} {σ' : Mem} {cells slots b L i : Nat} {xs : Nat → Int32} (C : Cx p s m #[.ref b] meth c cL_law 4 R_law ret COM g) (hX : va_X b L xs s s.heap) (hbl : b < s.heap.size) (hbA : ¬ geB g b) (hi : i + 5 ≤ L) (hL : L ≤ 2560) (hc : cells + 82 ≤ 600000) (hsl : slots + 1707 ≤ 7302250) {v : Int32} (h1 : f_X10_load χ T (xs (i + 1)) (xs (i + 2)) (xs (i + 3)) = some ((χ', T'), v)) (h2 : f_X11_load σ (xs (i + 1)) (xs (i + 2)) (xs (i + 3)) = some (σ', v))
    (kk : ∀ ad' : Nat → Nat → Nat, JJ p l e room_1 s m #[.ref b] below meth c 4 g ad' Q χ' T' σ' (cells + 80 + 0) (slots + 1680 + 0) [(3, .int (nI i)), (2, .ref (ad' 30 0)), (1, .ref (ad' 0 0)), (0, .ref b)] 844 []) : JJ p l e room_1 s m #[.ref b] below meth c 4 g ad Q χ T σ cells slots [(3, .int (nI i)), (2, .ref (ad 30 0)), (1, .ref (ad 0 0)), (0, .ref b)] 560 [] := by
  refine j_aload_n C 2 rfl rfl dL_law_560 ?_
  refine j_sarg C hX hbl hbA (k := 1) (by decide) hi hL dL_law_561 dL_law_562 dL_law_563 dL_law_564 dL_law_565 ?_
  refine j_sarg C hX hbl hbA (k := 2) (by decide) hi hL dL_law_566 dL_law_567 dL_law_568 dL_law_569 dL_law_570 ?_
  refine j_sarg C hX hbl hbA (k := 3) (by decide) hi hL dL_law_571 dL_law_572 dL_law_573 dL_law_574 dL_law_575 ?_
  refine j_callVi (As := [.int (xs (i + 1)), .int (xs (i + 2)), .int (xs (i + 3))]) (rest := []) C (c_X10_load h1) (cwV 3 C.ts (good_V mw_797 mw_798 mw_799 mw_63 mw_800) rfl rfl rfl (by decide +kernel) ⟨(Nat.le_of_ble_eq_true rfl), (Nat.le_of_ble_eq_true rfl)⟩) (fun H hW => CW.rv C.k hW (by decide) cw_0 rfl) rfl rfl (Nat.le_of_ble_eq_true rfl) dL_law_576 ⟨(by show cells + 80 ≤ 600000; omega), (by show slots + 1680 ≤ 7302250; omega)⟩ ?_
  refine j_aload_n C 1 rfl rfl dL_law_579 ?_
  refine j_sarg C hX hbl hbA (k := 1) (by decide) hi hL dL_law_580 dL_law_581 dL_law_582 dL_law_583 dL_law_584 ?_
  refine j_sarg C hX hbl hbA (k := 2) (by decide) hi hL dL_law_585 dL_law_586 dL_law_587 dL_law_588 dL_law_589 ?_
  refine j_sarg C hX hbl hbA (k := 3) (by decide) hi hL dL_law_590 dL_law_591 dL_law_592 dL_law_593 dL_law_594 ?_
  refine j_callVi (As := [.int (xs (i + 1)), .int (xs (i + 2)), .int (xs (i + 3))]) (rest := [.int v]) C (c_X11_load h2) (cwV 3 C.ts (good_V mw_1252 mw_1253 mw_1254 mw_73 mw_1255) rfl rfl rfl (by decide +kernel) ⟨(Nat.le_of_ble_eq_true rfl), (Nat.le_of_ble_eq_true rfl)⟩) (fun H hW => CW.rv C.k hW (by decide) cw_30 rfl) rfl rfl (Nat.le_of_ble_eq_true rfl) dL_law_595 ⟨(by show cells + 80 + 0 ≤ 600000; omega), (by show slots + 1680 + 0 ≤ 7302250; omega)⟩ ?_
  exact j_icmp_eq (tgt := 844) C (by decide) dL_law_598 (fun _ => kk _) (fun hc => absurd rfl hc)
set_option maxRecDepth 100000 in
set_option maxHeartbeats 4000000 in
theorem law_c13 {p : Program} {l : Launch} {e : Env} {s : State} {m : MethodId} {below : List Frame} {meth : Method} {c : Code} {Q : State → Prop} {g : Gc} {ad : Nat → Nat → Nat} {χ : Mem} {T : Nat → Mem} {σ : Mem} {σ' : Mem} {cells slots b L i : Nat} {xs : Nat → Int32} (C : Cx p s m #[.ref b] meth c cL_law 4 R_law ret COM g) (hX : va_X b L xs s s.heap) (hbl : b < s.heap.size) (hbA : ¬ geB g b) (hi : i + 5 ≤ L) (hL : L ≤ 2560) (hc : cells + 82 ≤ 600000) (hsl : slots + 1707 ≤ 7302250) {v : Int32} (h1 : f_X10_carry χ T = some v) (h2 : f_X11_carry σ = some (σ', v))
    (kk : ∀ ad' : Nat → Nat → Nat, JJ p l e room_1 s m #[.ref b] below meth c 4 g ad' Q χ T σ' (cells + 0 + 0) (slots + 0 + 0) [(3, .int (nI i)), (2, .ref (ad' 30 0)), (1, .ref (ad' 0 0)), (0, .ref b)] 844 []) : JJ p l e room_1 s m #[.ref b] below meth c 4 g ad Q χ T σ cells slots [(3, .int (nI i)), (2, .ref (ad 30 0)), (1, .ref (ad 0 0)), (0, .ref b)] 603 [] := by
  refine j_aload_n C 2 rfl rfl dL_law_603 ?_
  refine j_callVi (As := []) (rest := []) C (c_X10_carry h1) (cwV 0 C.ts (good_V mw_804 mw_805 mw_806 mw_63 mw_807) rfl rfl rfl (by decide +kernel) ⟨(Nat.le_of_ble_eq_true rfl), (Nat.le_of_ble_eq_true rfl)⟩) (fun H hW => CW.rv C.k hW (by decide) cw_0 rfl) rfl rfl (Nat.le_of_ble_eq_true rfl) dL_law_604 ⟨(by show cells + 0 ≤ 600000; omega), (by show slots + 0 ≤ 7302250; omega)⟩ ?_
  refine j_aload_n C 1 rfl rfl dL_law_607 ?_
  refine j_callVi (As := []) (rest := [.int v]) C (c_X11_carry h2) (cwV 0 C.ts (good_V mw_1256 mw_1257 mw_1258 mw_73 mw_1259) rfl rfl rfl (by decide +kernel) ⟨(Nat.le_of_ble_eq_true rfl), (Nat.le_of_ble_eq_true rfl)⟩) (fun H hW => CW.rv C.k hW (by decide) cw_30 rfl) rfl rfl (Nat.le_of_ble_eq_true rfl) dL_law_608 ⟨(by show cells + 0 + 0 ≤ 600000; omega), (by show slots + 0 + 0 ≤ 7302250; omega)⟩ ?_
  exact j_icmp_eq (tgt := 844) C (by decide) dL_law_611 (fun _ => kk _) (fun hc => absurd rfl hc)
set_option maxRecDepth 100000 in
set_option maxHeartbeats 4000000 in
theorem law_c14 {p : Program} {l : Launch} {e : Env} {s : State} {m : MethodId} {below : List Frame} {meth : Method} {c : Code} {Q : State → Prop} {g : Gc} {ad : Nat → Nat → Nat} {χ : Mem} {T : Nat → Mem} {σ : Mem} {σ' : Mem} {cells slots b L i : Nat} {xs : Nat → Int32} (C : Cx p s m #[.ref b] meth c cL_law 4 R_law ret COM g) (hX : va_X b L xs s s.heap) (hbl : b < s.heap.size) (hbA : ¬ geB g b) (hi : i + 5 ≤ L) (hL : L ≤ 2560) (hc : cells + 82 ≤ 600000) (hsl : slots + 1707 ≤ 7302250) {v : Int64} (h1 : f_X10_force χ T (xs (i + 1)) (xs (i + 2)) = some v) (h2 : f_X11_force σ (xs (i + 1)) (xs (i + 2)) = some (σ', v))
    (kk : ∀ ad' : Nat → Nat → Nat, JJ p l e room_1 s m #[.ref b] below meth c 4 g ad' Q χ T σ' (cells + 0 + 0) (slots + 0 + 0) [(3, .int (nI i)), (2, .ref (ad' 30 0)), (1, .ref (ad' 0 0)), (0, .ref b)] 844 []) : JJ p l e room_1 s m #[.ref b] below meth c 4 g ad Q χ T σ cells slots [(3, .int (nI i)), (2, .ref (ad 30 0)), (1, .ref (ad 0 0)), (0, .ref b)] 616 [] := by
  refine j_aload_n C 2 rfl rfl dL_law_616 ?_
  refine j_sarg C hX hbl hbA (k := 1) (by decide) hi hL dL_law_617 dL_law_618 dL_law_619 dL_law_620 dL_law_621 ?_
  refine j_sarg C hX hbl hbA (k := 2) (by decide) hi hL dL_law_622 dL_law_623 dL_law_624 dL_law_625 dL_law_626 ?_
  refine j_callVl (As := [.int (xs (i + 1)), .int (xs (i + 2))]) (rest := []) C (c_X10_force h1) (cwV 2 C.ts (good_V mw_816 mw_817 mw_818 mw_63 mw_819) rfl rfl rfl (by decide +kernel) ⟨(Nat.le_of_ble_eq_true rfl), (Nat.le_of_ble_eq_true rfl)⟩) (fun H hW => CW.rv C.k hW (by decide) cw_0 rfl) rfl rfl (Nat.le_of_ble_eq_true rfl) dL_law_627 ⟨(by show cells + 0 ≤ 600000; omega), (by show slots + 0 ≤ 7302250; omega)⟩ ?_
  refine j_aload_n C 1 rfl rfl dL_law_630 ?_
  refine j_sarg C hX hbl hbA (k := 1) (by decide) hi hL dL_law_631 dL_law_632 dL_law_633 dL_law_634 dL_law_635 ?_
  refine j_sarg C hX hbl hbA (k := 2) (by decide) hi hL dL_law_636 dL_law_637 dL_law_638 dL_law_639 dL_law_640 ?_
  refine j_callVl (As := [.int (xs (i + 1)), .int (xs (i + 2))]) (rest := [.long v]) C (c_X11_force h2) (cwV 2 C.ts (good_V mw_1264 mw_1265 mw_1266 mw_73 mw_1267) rfl rfl rfl (by decide +kernel) ⟨(Nat.le_of_ble_eq_true rfl), (Nat.le_of_ble_eq_true rfl)⟩) (fun H hW => CW.rv C.k hW (by decide) cw_30 rfl) rfl rfl (Nat.le_of_ble_eq_true rfl) dL_law_641 ⟨(by show cells + 0 + 0 ≤ 600000; omega), (by show slots + 0 + 0 ≤ 7302250; omega)⟩ ?_
  exact j_lcmp_eq (tgt := 844) C dL_law_645 (by decide) dL_law_644 (fun _ => kk _) (fun hc => absurd rfl hc)
set_option maxRecDepth 100000 in
set_option maxHeartbeats 4000000 in
theorem law_c15 {p : Program} {l : Launch} {e : Env} {s : State} {m : MethodId} {below : List Frame} {meth : Method} {c : Code} {Q : State → Prop} {g : Gc} {ad : Nat → Nat → Nat} {χ : Mem} {T : Nat → Mem} {σ : Mem} {σ' : Mem} {cells slots b L i : Nat} {xs : Nat → Int32} (C : Cx p s m #[.ref b] meth c cL_law 4 R_law ret COM g) (hX : va_X b L xs s s.heap) (hbl : b < s.heap.size) (hbA : ¬ geB g b) (hi : i + 5 ≤ L) (hL : L ≤ 2560) (hc : cells + 82 ≤ 600000) (hsl : slots + 1707 ≤ 7302250) {v : Int32} (h1 : f_X10_gives χ T = some v) (h2 : f_X11_gives σ = some (σ', v))
    (kk : ∀ ad' : Nat → Nat → Nat, JJ p l e room_1 s m #[.ref b] below meth c 4 g ad' Q χ T σ' (cells + 0 + 0) (slots + 0 + 0) [(3, .int (nI i)), (2, .ref (ad' 30 0)), (1, .ref (ad' 0 0)), (0, .ref b)] 844 []) : JJ p l e room_1 s m #[.ref b] below meth c 4 g ad Q χ T σ cells slots [(3, .int (nI i)), (2, .ref (ad 30 0)), (1, .ref (ad 0 0)), (0, .ref b)] 650 [] := by
  refine j_aload_n C 2 rfl rfl dL_law_650 ?_
  refine j_callVi (As := []) (rest := []) C (c_X10_gives h1) (cwV 0 C.ts (good_V mw_836 mw_837 mw_838 mw_63 mw_839) rfl rfl rfl (by decide +kernel) ⟨(Nat.le_of_ble_eq_true rfl), (Nat.le_of_ble_eq_true rfl)⟩) (fun H hW => CW.rv C.k hW (by decide) cw_0 rfl) rfl rfl (Nat.le_of_ble_eq_true rfl) dL_law_651 ⟨(by show cells + 0 ≤ 600000; omega), (by show slots + 0 ≤ 7302250; omega)⟩ ?_
  refine j_aload_n C 1 rfl rfl dL_law_654 ?_
  refine j_callVi (As := []) (rest := [.int v]) C (c_X11_gives h2) (cwV 0 C.ts (good_V mw_1268 mw_1269 mw_1270 mw_73 mw_1271) rfl rfl rfl (by decide +kernel) ⟨(Nat.le_of_ble_eq_true rfl), (Nat.le_of_ble_eq_true rfl)⟩) (fun H hW => CW.rv C.k hW (by decide) cw_30 rfl) rfl rfl (Nat.le_of_ble_eq_true rfl) dL_law_655 ⟨(by show cells + 0 + 0 ≤ 600000; omega), (by show slots + 0 + 0 ≤ 7302250; omega)⟩ ?_
  exact j_icmp_eq (tgt := 844) C (by decide) dL_law_658 (fun _ => kk _) (fun hc => absurd rfl hc)
set_option maxRecDepth 100000 in
set_option maxHeartbeats 4000000 in
theorem law_c16 {p : Program} {l : Launch} {e : Env} {s : State} {m : MethodId} {below : List Frame} {meth : Method} {c : Code} {Q : State → Prop} {g : Gc} {ad : Nat → Nat → Nat} {χ : Mem} {T : Nat → Mem} {σ : Mem} {σ' : Mem} {cells slots b L i : Nat} {xs : Nat → Int32} (C : Cx p s m #[.ref b] meth c cL_law 4 R_law ret COM g) (hX : va_X b L xs s s.heap) (hbl : b < s.heap.size) (hbA : ¬ geB g b) (hi : i + 5 ≤ L) (hL : L ≤ 2560) (hc : cells + 82 ≤ 600000) (hsl : slots + 1707 ≤ 7302250) {v : Int32} (h1 : f_X10_could χ T = some v) (h2 : f_X11_could σ = some (σ', v))
    (kk : ∀ ad' : Nat → Nat → Nat, JJ p l e room_1 s m #[.ref b] below meth c 4 g ad' Q χ T σ' (cells + 0 + 0) (slots + 0 + 0) [(3, .int (nI i)), (2, .ref (ad' 30 0)), (1, .ref (ad' 0 0)), (0, .ref b)] 844 []) : JJ p l e room_1 s m #[.ref b] below meth c 4 g ad Q χ T σ cells slots [(3, .int (nI i)), (2, .ref (ad 30 0)), (1, .ref (ad 0 0)), (0, .ref b)] 663 [] := by
  refine j_aload_n C 2 rfl rfl dL_law_663 ?_
  refine j_callVi (As := []) (rest := []) C (c_X10_could h1) (cwV 0 C.ts (good_V mw_845 mw_846 mw_847 mw_63 mw_848) rfl rfl rfl (by decide +kernel) ⟨(Nat.le_of_ble_eq_true rfl), (Nat.le_of_ble_eq_true rfl)⟩) (fun H hW => CW.rv C.k hW (by decide) cw_0 rfl) rfl rfl (Nat.le_of_ble_eq_true rfl) dL_law_664 ⟨(by show cells + 0 ≤ 600000; omega), (by show slots + 0 ≤ 7302250; omega)⟩ ?_
  refine j_aload_n C 1 rfl rfl dL_law_667 ?_
  refine j_callVi (As := []) (rest := [.int v]) C (c_X11_could h2) (cwV 0 C.ts (good_V mw_1272 mw_1273 mw_1274 mw_73 mw_1275) rfl rfl rfl (by decide +kernel) ⟨(Nat.le_of_ble_eq_true rfl), (Nat.le_of_ble_eq_true rfl)⟩) (fun H hW => CW.rv C.k hW (by decide) cw_30 rfl) rfl rfl (Nat.le_of_ble_eq_true rfl) dL_law_668 ⟨(by show cells + 0 + 0 ≤ 600000; omega), (by show slots + 0 + 0 ≤ 7302250; omega)⟩ ?_
  exact j_icmp_eq (tgt := 844) C (by decide) dL_law_671 (fun _ => kk _) (fun hc => absurd rfl hc)
set_option maxRecDepth 100000 in
set_option maxHeartbeats 4000000 in
theorem law_c17 {p : Program} {l : Launch} {e : Env} {s : State} {m : MethodId} {below : List Frame} {meth : Method} {c : Code} {Q : State → Prop} {g : Gc} {ad : Nat → Nat → Nat} {χ : Mem} {T : Nat → Mem} {σ : Mem} {σ' : Mem} {cells slots b L i : Nat} {xs : Nat → Int32} (C : Cx p s m #[.ref b] meth c cL_law 4 R_law ret COM g) (hX : va_X b L xs s s.heap) (hbl : b < s.heap.size) (hbA : ¬ geB g b) (hi : i + 5 ≤ L) (hL : L ≤ 2560) (hc : cells + 82 ≤ 600000) (hsl : slots + 1707 ≤ 7302250) {v : Int32} (h1 : f_X10_body χ T (xs (i + 1)) (xs (i + 2)) = some v) (h2 : f_X11_body σ (xs (i + 1)) (xs (i + 2)) = some (σ', v))
    (kk : ∀ ad' : Nat → Nat → Nat, JJ p l e room_1 s m #[.ref b] below meth c 4 g ad' Q χ T σ' (cells + 0 + 0) (slots + 0 + 0) [(3, .int (nI i)), (2, .ref (ad' 30 0)), (1, .ref (ad' 0 0)), (0, .ref b)] 844 []) : JJ p l e room_1 s m #[.ref b] below meth c 4 g ad Q χ T σ cells slots [(3, .int (nI i)), (2, .ref (ad 30 0)), (1, .ref (ad 0 0)), (0, .ref b)] 676 [] := by
  refine j_aload_n C 2 rfl rfl dL_law_676 ?_
  refine j_sarg C hX hbl hbA (k := 1) (by decide) hi hL dL_law_677 dL_law_678 dL_law_679 dL_law_680 dL_law_681 ?_
  refine j_sarg C hX hbl hbA (k := 2) (by decide) hi hL dL_law_682 dL_law_683 dL_law_684 dL_law_685 dL_law_686 ?_
  refine j_callVi (As := [.int (xs (i + 1)), .int (xs (i + 2))]) (rest := []) C (c_X10_body h1) (cwV 2 C.ts (good_V mw_853 mw_854 mw_855 mw_63 mw_856) rfl rfl rfl (by decide +kernel) ⟨(Nat.le_of_ble_eq_true rfl), (Nat.le_of_ble_eq_true rfl)⟩) (fun H hW => CW.rv C.k hW (by decide) cw_0 rfl) rfl rfl (Nat.le_of_ble_eq_true rfl) dL_law_687 ⟨(by show cells + 0 ≤ 600000; omega), (by show slots + 0 ≤ 7302250; omega)⟩ ?_
  refine j_aload_n C 1 rfl rfl dL_law_690 ?_
  refine j_sarg C hX hbl hbA (k := 1) (by decide) hi hL dL_law_691 dL_law_692 dL_law_693 dL_law_694 dL_law_695 ?_
  refine j_sarg C hX hbl hbA (k := 2) (by decide) hi hL dL_law_696 dL_law_697 dL_law_698 dL_law_699 dL_law_700 ?_
  refine j_callVi (As := [.int (xs (i + 1)), .int (xs (i + 2))]) (rest := [.int v]) C (c_X11_body h2) (cwV 2 C.ts (good_V mw_1276 mw_1277 mw_1278 mw_73 mw_1279) rfl rfl rfl (by decide +kernel) ⟨(Nat.le_of_ble_eq_true rfl), (Nat.le_of_ble_eq_true rfl)⟩) (fun H hW => CW.rv C.k hW (by decide) cw_30 rfl) rfl rfl (Nat.le_of_ble_eq_true rfl) dL_law_701 ⟨(by show cells + 0 + 0 ≤ 600000; omega), (by show slots + 0 + 0 ≤ 7302250; omega)⟩ ?_
  exact j_icmp_eq (tgt := 844) C (by decide) dL_law_704 (fun _ => kk _) (fun hc => absurd rfl hc)
set_option maxRecDepth 100000 in
set_option maxHeartbeats 4000000 in
theorem law_c18 {p : Program} {l : Launch} {e : Env} {s : State} {m : MethodId} {below : List Frame} {meth : Method} {c : Code} {Q : State → Prop} {g : Gc} {ad : Nat → Nat → Nat} {χ : Mem} {T : Nat → Mem} {σ : Mem} {σ' : Mem} {cells slots b L i : Nat} {xs : Nat → Int32} (C : Cx p s m #[.ref b] meth c cL_law 4 R_law ret COM g) (hX : va_X b L xs s s.heap) (hbl : b < s.heap.size) (hbA : ¬ geB g b) (hi : i + 5 ≤ L) (hL : L ≤ 2560) (hc : cells + 82 ≤ 600000) (hsl : slots + 1707 ≤ 7302250) {v : Int32} (h1 : f_X10_plan χ T (xs (i + 1)) = some v) (h2 : f_X11_plan σ (xs (i + 1)) = some (σ', v))
    (kk : ∀ ad' : Nat → Nat → Nat, JJ p l e room_1 s m #[.ref b] below meth c 4 g ad' Q χ T σ' (cells + 0 + 0) (slots + 0 + 0) [(3, .int (nI i)), (2, .ref (ad' 30 0)), (1, .ref (ad' 0 0)), (0, .ref b)] 844 []) : JJ p l e room_1 s m #[.ref b] below meth c 4 g ad Q χ T σ cells slots [(3, .int (nI i)), (2, .ref (ad 30 0)), (1, .ref (ad 0 0)), (0, .ref b)] 709 [] := by
  refine j_aload_n C 2 rfl rfl dL_law_709 ?_
  refine j_sarg C hX hbl hbA (k := 1) (by decide) hi hL dL_law_710 dL_law_711 dL_law_712 dL_law_713 dL_law_714 ?_
  refine j_callVi (As := [.int (xs (i + 1))]) (rest := []) C (c_X10_plan h1) (cwV 1 C.ts (good_V mw_867 mw_868 mw_869 mw_63 mw_870) rfl rfl rfl (by decide +kernel) ⟨(Nat.le_of_ble_eq_true rfl), (Nat.le_of_ble_eq_true rfl)⟩) (fun H hW => CW.rv C.k hW (by decide) cw_0 rfl) rfl rfl (Nat.le_of_ble_eq_true rfl) dL_law_715 ⟨(by show cells + 0 ≤ 600000; omega), (by show slots + 0 ≤ 7302250; omega)⟩ ?_
  refine j_aload_n C 1 rfl rfl dL_law_718 ?_
  refine j_sarg C hX hbl hbA (k := 1) (by decide) hi hL dL_law_719 dL_law_720 dL_law_721 dL_law_722 dL_law_723 ?_
  refine j_callVi (As := [.int (xs (i + 1))]) (rest := [.int v]) C (c_X11_plan h2) (cwV 1 C.ts (good_V mw_1280 mw_1281 mw_1282 mw_73 mw_1283) rfl rfl rfl (by decide +kernel) ⟨(Nat.le_of_ble_eq_true rfl), (Nat.le_of_ble_eq_true rfl)⟩) (fun H hW => CW.rv C.k hW (by decide) cw_30 rfl) rfl rfl (Nat.le_of_ble_eq_true rfl) dL_law_724 ⟨(by show cells + 0 + 0 ≤ 600000; omega), (by show slots + 0 + 0 ≤ 7302250; omega)⟩ ?_
  exact j_icmp_eq (tgt := 844) C (by decide) dL_law_727 (fun _ => kk _) (fun hc => absurd rfl hc)
set_option maxRecDepth 100000 in
set_option maxHeartbeats 4000000 in
theorem law_c19 {p : Program} {l : Launch} {e : Env} {s : State} {m : MethodId} {below : List Frame} {meth : Method} {c : Code} {Q : State → Prop} {g : Gc} {ad : Nat → Nat → Nat} {χ : Mem} {T : Nat → Mem} {σ : Mem} {σ' : Mem} {cells slots b L i : Nat} {xs : Nat → Int32} (C : Cx p s m #[.ref b] meth c cL_law 4 R_law ret COM g) (hX : va_X b L xs s s.heap) (hbl : b < s.heap.size) (hbA : ¬ geB g b) (hi : i + 5 ≤ L) (hL : L ≤ 2560) (hc : cells + 82 ≤ 600000) (hsl : slots + 1707 ≤ 7302250) {v : Int32} (h1 : f_X10_cheapest χ T = some v) (h2 : f_X11_cheapest σ = some (σ', v))
    (kk : ∀ ad' : Nat → Nat → Nat, JJ p l e room_1 s m #[.ref b] below meth c 4 g ad' Q χ T σ' (cells + 0 + 0) (slots + 0 + 0) [(3, .int (nI i)), (2, .ref (ad' 30 0)), (1, .ref (ad' 0 0)), (0, .ref b)] 844 []) : JJ p l e room_1 s m #[.ref b] below meth c 4 g ad Q χ T σ cells slots [(3, .int (nI i)), (2, .ref (ad 30 0)), (1, .ref (ad 0 0)), (0, .ref b)] 732 [] := by
  refine j_aload_n C 2 rfl rfl dL_law_732 ?_
  refine j_callVi (As := []) (rest := []) C (c_X10_cheapest h1) (cwV 0 C.ts (good_V mw_875 mw_876 mw_877 mw_63 mw_878) rfl rfl rfl (by decide +kernel) ⟨(Nat.le_of_ble_eq_true rfl), (Nat.le_of_ble_eq_true rfl)⟩) (fun H hW => CW.rv C.k hW (by decide) cw_0 rfl) rfl rfl (Nat.le_of_ble_eq_true rfl) dL_law_733 ⟨(by show cells + 0 ≤ 600000; omega), (by show slots + 0 ≤ 7302250; omega)⟩ ?_
  refine j_aload_n C 1 rfl rfl dL_law_736 ?_
  refine j_callVi (As := []) (rest := [.int v]) C (c_X11_cheapest h2) (cwV 0 C.ts (good_V mw_1292 mw_1293 mw_1294 mw_73 mw_1295) rfl rfl rfl (by decide +kernel) ⟨(Nat.le_of_ble_eq_true rfl), (Nat.le_of_ble_eq_true rfl)⟩) (fun H hW => CW.rv C.k hW (by decide) cw_30 rfl) rfl rfl (Nat.le_of_ble_eq_true rfl) dL_law_737 ⟨(by show cells + 0 + 0 ≤ 600000; omega), (by show slots + 0 + 0 ≤ 7302250; omega)⟩ ?_
  exact j_icmp_eq (tgt := 844) C (by decide) dL_law_740 (fun _ => kk _) (fun hc => absurd rfl hc)
set_option maxRecDepth 100000 in
set_option maxHeartbeats 4000000 in
theorem law_c20 {p : Program} {l : Launch} {e : Env} {s : State} {m : MethodId} {below : List Frame} {meth : Method} {c : Code} {Q : State → Prop} {g : Gc} {ad : Nat → Nat → Nat} {χ : Mem} {T : Nat → Mem} {σ : Mem} {χ' : Mem} {T' : Nat → Mem} {σ' : Mem} {cells slots b L i : Nat} {xs : Nat → Int32} (C : Cx p s m #[.ref b] meth c cL_law 4 R_law ret COM g) (hX : va_X b L xs s s.heap) (hbl : b < s.heap.size) (hbA : ¬ geB g b) (hi : i + 5 ≤ L) (hL : L ≤ 2560) (hc : cells + 82 ≤ 600000) (hsl : slots + 1707 ≤ 7302250) {v : Int32} (h1 : f_X10_tray χ T (xs (i + 1)) (xs (i + 2)) (xs (i + 3)) = some ((χ', T'), v)) (h2 : f_X11_tray σ (xs (i + 1)) (xs (i + 2)) (xs (i + 3)) = some (σ', v))
    (kk : ∀ ad' : Nat → Nat → Nat, JJ p l e room_1 s m #[.ref b] below meth c 4 g ad' Q χ' T' σ' (cells + 2 + 0) (slots + 17 + 0) [(3, .int (nI i)), (2, .ref (ad' 30 0)), (1, .ref (ad' 0 0)), (0, .ref b)] 844 []) : JJ p l e room_1 s m #[.ref b] below meth c 4 g ad Q χ T σ cells slots [(3, .int (nI i)), (2, .ref (ad 30 0)), (1, .ref (ad 0 0)), (0, .ref b)] 745 [] := by
  refine j_aload_n C 2 rfl rfl dL_law_745 ?_
  refine j_sarg C hX hbl hbA (k := 1) (by decide) hi hL dL_law_746 dL_law_747 dL_law_748 dL_law_749 dL_law_750 ?_
  refine j_sarg C hX hbl hbA (k := 2) (by decide) hi hL dL_law_751 dL_law_752 dL_law_753 dL_law_754 dL_law_755 ?_
  refine j_sarg C hX hbl hbA (k := 3) (by decide) hi hL dL_law_756 dL_law_757 dL_law_758 dL_law_759 dL_law_760 ?_
  refine j_callEi (As := [.int (xs (i + 1)), .int (xs (i + 2)), .int (xs (i + 3))]) (rest := []) C (c_X10_tray h1) (cwV 3 C.ts (good_V mw_892 mw_893 mw_894 mw_63 mw_895) rfl rfl rfl (by decide +kernel) ⟨(Nat.le_of_ble_eq_true rfl), (Nat.le_of_ble_eq_true rfl)⟩) (fun H hW => CW.rv C.k hW (by decide) cw_0 rfl) rfl rfl (Nat.le_of_ble_eq_true rfl) dL_law_761 ⟨(by show cells + 2 ≤ 600000; omega), (by show slots + 17 ≤ 7302250; omega)⟩ (fun ad1 hx => ?_)
  refine j_re (L' := [(3, .int (nI i)), (2, .ref (ad1 30 0)), (1, .ref (ad1 0 0)), (0, .ref b)]) (st' := [.int v]) (by rw [hx.lo (k := 30) (i := 0) (by decide), hx.lo (k := 0) (i := 0) (by decide)]) rfl ?_
  refine j_aload_n C 1 rfl rfl dL_law_764 ?_
  refine j_sarg C hX hbl hbA (k := 1) (by decide) hi hL dL_law_765 dL_law_766 dL_law_767 dL_law_768 dL_law_769 ?_
  refine j_sarg C hX hbl hbA (k := 2) (by decide) hi hL dL_law_770 dL_law_771 dL_law_772 dL_law_773 dL_law_774 ?_
  refine j_sarg C hX hbl hbA (k := 3) (by decide) hi hL dL_law_775 dL_law_776 dL_law_777 dL_law_778 dL_law_779 ?_
  refine j_callVi (As := [.int (xs (i + 1)), .int (xs (i + 2)), .int (xs (i + 3))]) (rest := [.int v]) C (c_X11_tray h2) (cwV 3 C.ts (good_V mw_1296 mw_1297 mw_1298 mw_73 mw_1299) rfl rfl rfl (by decide +kernel) ⟨(Nat.le_of_ble_eq_true rfl), (Nat.le_of_ble_eq_true rfl)⟩) (fun H hW => CW.rv C.k hW (by decide) cw_30 rfl) rfl rfl (Nat.le_of_ble_eq_true rfl) dL_law_780 ⟨(by show cells + 2 + 0 ≤ 600000; omega), (by show slots + 17 + 0 ≤ 7302250; omega)⟩ ?_
  exact j_icmp_eq (tgt := 844) C (by decide) dL_law_783 (fun _ => kk _) (fun hc => absurd rfl hc)
set_option maxRecDepth 100000 in
set_option maxHeartbeats 4000000 in
theorem law_c21 {p : Program} {l : Launch} {e : Env} {s : State} {m : MethodId} {below : List Frame} {meth : Method} {c : Code} {Q : State → Prop} {g : Gc} {ad : Nat → Nat → Nat} {χ : Mem} {T : Nat → Mem} {σ : Mem} {χ' : Mem} {T' : Nat → Mem} {σ' : Mem} {cells slots b L i : Nat} {xs : Nat → Int32} (C : Cx p s m #[.ref b] meth c cL_law 4 R_law ret COM g) (hX : va_X b L xs s s.heap) (hbl : b < s.heap.size) (hbA : ¬ geB g b) (hi : i + 5 ≤ L) (hL : L ≤ 2560) (hc : cells + 82 ≤ 600000) (hsl : slots + 1707 ≤ 7302250) {v : Int32} (h1 : f_X10_forge χ T (xs (i + 1)) (xs (i + 2)) (xs (i + 3)) = some ((χ', T'), v)) (h2 : f_X11_forge σ (xs (i + 1)) (xs (i + 2)) (xs (i + 3)) = some (σ', v))
    (kk : ∀ ad' : Nat → Nat → Nat, JJ p l e room_1 s m #[.ref b] below meth c 4 g ad' Q χ' T' σ' (cells + 0 + 0) (slots + 0 + 0) [(3, .int (nI i)), (2, .ref (ad' 30 0)), (1, .ref (ad' 0 0)), (0, .ref b)] 844 []) : JJ p l e room_1 s m #[.ref b] below meth c 4 g ad Q χ T σ cells slots [(3, .int (nI i)), (2, .ref (ad 30 0)), (1, .ref (ad 0 0)), (0, .ref b)] 788 [] := by
  refine j_aload_n C 2 rfl rfl dL_law_788 ?_
  refine j_sarg C hX hbl hbA (k := 1) (by decide) hi hL dL_law_789 dL_law_790 dL_law_791 dL_law_792 dL_law_793 ?_
  refine j_sarg C hX hbl hbA (k := 2) (by decide) hi hL dL_law_794 dL_law_795 dL_law_796 dL_law_797 dL_law_798 ?_
  refine j_sarg C hX hbl hbA (k := 3) (by decide) hi hL dL_law_799 dL_law_800 dL_law_801 dL_law_802 dL_law_803 ?_
  refine j_callVi (As := [.int (xs (i + 1)), .int (xs (i + 2)), .int (xs (i + 3))]) (rest := []) C (c_X10_forge h1) (cwV 3 C.ts (good_V mw_952 mw_953 mw_954 mw_63 mw_955) rfl rfl rfl (by decide +kernel) ⟨(Nat.le_of_ble_eq_true rfl), (Nat.le_of_ble_eq_true rfl)⟩) (fun H hW => CW.rv C.k hW (by decide) cw_0 rfl) rfl rfl (Nat.le_of_ble_eq_true rfl) dL_law_804 ⟨(by show cells + 0 ≤ 600000; omega), (by show slots + 0 ≤ 7302250; omega)⟩ ?_
  refine j_aload_n C 1 rfl rfl dL_law_807 ?_
  refine j_sarg C hX hbl hbA (k := 1) (by decide) hi hL dL_law_808 dL_law_809 dL_law_810 dL_law_811 dL_law_812 ?_
  refine j_sarg C hX hbl hbA (k := 2) (by decide) hi hL dL_law_813 dL_law_814 dL_law_815 dL_law_816 dL_law_817 ?_
  refine j_sarg C hX hbl hbA (k := 3) (by decide) hi hL dL_law_818 dL_law_819 dL_law_820 dL_law_821 dL_law_822 ?_
  refine j_callVi (As := [.int (xs (i + 1)), .int (xs (i + 2)), .int (xs (i + 3))]) (rest := [.int v]) C (c_X11_forge h2) (cwV 3 C.ts (good_V mw_1308 mw_1309 mw_1310 mw_73 mw_1311) rfl rfl rfl (by decide +kernel) ⟨(Nat.le_of_ble_eq_true rfl), (Nat.le_of_ble_eq_true rfl)⟩) (fun H hW => CW.rv C.k hW (by decide) cw_30 rfl) rfl rfl (Nat.le_of_ble_eq_true rfl) dL_law_823 ⟨(by show cells + 0 + 0 ≤ 600000; omega), (by show slots + 0 + 0 ≤ 7302250; omega)⟩ ?_
  exact j_icmp_eq (tgt := 844) C (by decide) dL_law_826 (fun _ => kk _) (fun hc => absurd rfl hc)
set_option maxRecDepth 100000 in
set_option maxHeartbeats 4000000 in
theorem law_c22 {p : Program} {l : Launch} {e : Env} {s : State} {m : MethodId} {below : List Frame} {meth : Method} {c : Code} {Q : State → Prop} {g : Gc} {ad : Nat → Nat → Nat} {χ : Mem} {T : Nat → Mem} {σ : Mem} {cells slots b L i : Nat} {xs : Nat → Int32} (C : Cx p s m #[.ref b] meth c cL_law 4 R_law ret COM g) (hX : va_X b L xs s s.heap) (hbl : b < s.heap.size) (hbA : ¬ geB g b) (hi : i + 5 ≤ L) (hL : L ≤ 2560) (hc : cells + 82 ≤ 600000) (hsl : slots + 1707 ≤ 7302250) {v : Int32} (h1 : f_X10_status χ T = some v) (h2 : f_X11_status σ = some v)
    (kk : ∀ ad' : Nat → Nat → Nat, JJ p l e room_1 s m #[.ref b] below meth c 4 g ad' Q χ T σ (cells + 0 + 0) (slots + 0 + 0) [(3, .int (nI i)), (2, .ref (ad' 30 0)), (1, .ref (ad' 0 0)), (0, .ref b)] 844 []) : JJ p l e room_1 s m #[.ref b] below meth c 4 g ad Q χ T σ cells slots [(3, .int (nI i)), (2, .ref (ad 30 0)), (1, .ref (ad 0 0)), (0, .ref b)] 831 [] := by
  refine j_aload_n C 2 rfl rfl dL_law_831 ?_
  refine j_callVi (As := []) (rest := []) C (c_X10_status h1) (cwV 0 C.ts (good_V mw_991 mw_992 mw_993 mw_63 mw_994) rfl rfl rfl (by decide +kernel) ⟨(Nat.le_of_ble_eq_true rfl), (Nat.le_of_ble_eq_true rfl)⟩) (fun H hW => CW.rv C.k hW (by decide) cw_0 rfl) rfl rfl (Nat.le_of_ble_eq_true rfl) dL_law_832 ⟨(by show cells + 0 ≤ 600000; omega), (by show slots + 0 ≤ 7302250; omega)⟩ ?_
  refine j_aload_n C 1 rfl rfl dL_law_835 ?_
  refine j_callVi (As := []) (rest := [.int v]) C (c_X11_status h2) (cwV 0 C.ts (good_V mw_1312 mw_1313 mw_1314 mw_73 mw_1315) rfl rfl rfl (by decide +kernel) ⟨(Nat.le_of_ble_eq_true rfl), (Nat.le_of_ble_eq_true rfl)⟩) (fun H hW => CW.rv C.k hW (by decide) cw_30 rfl) rfl rfl (Nat.le_of_ble_eq_true rfl) dL_law_836 ⟨(by show cells + 0 + 0 ≤ 600000; omega), (by show slots + 0 + 0 ≤ 7302250; omega)⟩ ?_
  exact j_icmp_eq (tgt := 844) C (by decide) dL_law_839 (fun _ => kk _) (fun hc => absurd rfl hc)
def St_pin (Inv : Mem → (Nat → Mem) → Mem → Prop) : Prop := ∀ (χ : Mem) (T : Nat → Mem) (σ : Mem) (a1 : Int32) (a2 : Int32), Inv χ T σ → ∃ χ' : Mem, ∃ T' : Nat → Mem, ∃ σ' : Mem, ∃ v : Int32, f_X10_pin χ T a1 a2 = some ((χ', T'), v) ∧ f_X11_pin σ a1 a2 = some (σ', v) ∧ Inv χ' T' σ'
def St_move (Inv : Mem → (Nat → Mem) → Mem → Prop) : Prop := ∀ (χ : Mem) (T : Nat → Mem) (σ : Mem) (a1 : Int32) (a2 : Int32) (a3 : Int32), Inv χ T σ → ∃ χ' : Mem, ∃ T' : Nat → Mem, ∃ σ' : Mem, ∃ v : Int32, f_X10_move χ T a1 a2 a3 = some ((χ', T'), v) ∧ f_X11_move σ a1 a2 a3 = some (σ', v) ∧ Inv χ' T' σ'
def St_hold (Inv : Mem → (Nat → Mem) → Mem → Prop) : Prop := ∀ (χ : Mem) (T : Nat → Mem) (σ : Mem) (a1 : Int32) (a2 : Int32), Inv χ T σ → (a2 = 0 ∨ a2 = 1) → ∃ χ' : Mem, ∃ T' : Nat → Mem, ∃ σ' : Mem, ∃ v : Int32, f_X10_hold χ T a1 a2 = some ((χ', T'), v) ∧ f_X11_hold σ a1 a2 = some (σ', v) ∧ Inv χ' T' σ'
def St_rod (Inv : Mem → (Nat → Mem) → Mem → Prop) : Prop := ∀ (χ : Mem) (T : Nat → Mem) (σ : Mem) (a1 : Int32) (a2 : Int32) (a3 : Int32) (a4 : Int32), Inv χ T σ → ∃ χ' : Mem, ∃ T' : Nat → Mem, ∃ σ' : Mem, ∃ v : Int32, f_X10_rod χ T a1 a2 a3 a4 = some ((χ', T'), v) ∧ f_X11_rod σ a1 a2 a3 a4 = some (σ', v) ∧ Inv χ' T' σ'
def St_put (Inv : Mem → (Nat → Mem) → Mem → Prop) : Prop := ∀ (χ : Mem) (T : Nat → Mem) (σ : Mem) (a1 : Int32) (a2 : Int32), Inv χ T σ → (a2 = 0 ∨ a2 = 1) → ∃ χ' : Mem, ∃ T' : Nat → Mem, ∃ σ' : Mem, ∃ v : Int32, f_X10_put χ T a1 a2 = some ((χ', T'), v) ∧ f_X11_put σ a1 a2 = some (σ', v) ∧ Inv χ' T' σ'
def St_count (Inv : Mem → (Nat → Mem) → Mem → Prop) : Prop := ∀ (χ : Mem) (T : Nat → Mem) (σ : Mem) (a1 : Int32), Inv χ T σ → ∃ σ' : Mem, ∃ v : Int32, f_X10_count χ T a1 = some v ∧ f_X11_count σ a1 = some (σ', v) ∧ Inv χ T σ'
def St_pinTold (Inv : Mem → (Nat → Mem) → Mem → Prop) : Prop := ∀ (χ : Mem) (T : Nat → Mem) (σ : Mem) (a1 : Int32) (a2 : Int32), Inv χ T σ → ∃ v : Int32, f_X10_pinTold χ T a1 a2 = some v ∧ f_X11_pinTold σ a1 a2 = some v ∧ Inv χ T σ
def St_rodTold (Inv : Mem → (Nat → Mem) → Mem → Prop) : Prop := ∀ (χ : Mem) (T : Nat → Mem) (σ : Mem) (a1 : Int32) (a2 : Int32), Inv χ T σ → ∃ σ' : Mem, ∃ v : Int32, f_X10_rodTold χ T a1 a2 = some v ∧ f_X11_rodTold σ a1 a2 = some (σ', v) ∧ Inv χ T σ'
def St_motion (Inv : Mem → (Nat → Mem) → Mem → Prop) : Prop := ∀ (χ : Mem) (T : Nat → Mem) (σ : Mem) (a1 : Int32) (a2 : Int32) (a3 : Int32), Inv χ T σ → ∃ σ' : Mem, ∃ v : Int64, f_X10_motion χ T a1 a2 a3 = some v ∧ f_X11_motion σ a1 a2 a3 = some (σ', v) ∧ Inv χ T σ'
def St_stress (Inv : Mem → (Nat → Mem) → Mem → Prop) : Prop := ∀ (χ : Mem) (T : Nat → Mem) (σ : Mem) (a1 : Int32) (a2 : Int32), Inv χ T σ → ∃ σ' : Mem, ∃ v : Int64, f_X10_stress χ T a1 a2 = some v ∧ f_X11_stress σ a1 a2 = some (σ', v) ∧ Inv χ T σ'
def St_stiff (Inv : Mem → (Nat → Mem) → Mem → Prop) : Prop := ∀ (χ : Mem) (T : Nat → Mem) (σ : Mem) , Inv χ T σ → ∃ σ' : Mem, ∃ v : Int32, f_X10_stiff χ T = some v ∧ f_X11_stiff σ = some (σ', v) ∧ Inv χ T σ'
def St_tight (Inv : Mem → (Nat → Mem) → Mem → Prop) : Prop := ∀ (χ : Mem) (T : Nat → Mem) (σ : Mem) , Inv χ T σ → ∃ σ' : Mem, ∃ v : Int32, f_X10_tight χ T = some v ∧ f_X11_tight σ = some (σ', v) ∧ Inv χ T σ'
def St_load (Inv : Mem → (Nat → Mem) → Mem → Prop) : Prop := ∀ (χ : Mem) (T : Nat → Mem) (σ : Mem) (a1 : Int32) (a2 : Int32) (a3 : Int32), Inv χ T σ → ∃ χ' : Mem, ∃ T' : Nat → Mem, ∃ σ' : Mem, ∃ v : Int32, f_X10_load χ T a1 a2 a3 = some ((χ', T'), v) ∧ f_X11_load σ a1 a2 a3 = some (σ', v) ∧ Inv χ' T' σ'
def St_carry (Inv : Mem → (Nat → Mem) → Mem → Prop) : Prop := ∀ (χ : Mem) (T : Nat → Mem) (σ : Mem) , Inv χ T σ → ∃ σ' : Mem, ∃ v : Int32, f_X10_carry χ T = some v ∧ f_X11_carry σ = some (σ', v) ∧ Inv χ T σ'
def St_force (Inv : Mem → (Nat → Mem) → Mem → Prop) : Prop := ∀ (χ : Mem) (T : Nat → Mem) (σ : Mem) (a1 : Int32) (a2 : Int32), Inv χ T σ → ∃ σ' : Mem, ∃ v : Int64, f_X10_force χ T a1 a2 = some v ∧ f_X11_force σ a1 a2 = some (σ', v) ∧ Inv χ T σ'
def St_gives (Inv : Mem → (Nat → Mem) → Mem → Prop) : Prop := ∀ (χ : Mem) (T : Nat → Mem) (σ : Mem) , Inv χ T σ → ∃ σ' : Mem, ∃ v : Int32, f_X10_gives χ T = some v ∧ f_X11_gives σ = some (σ', v) ∧ Inv χ T σ'
def St_could (Inv : Mem → (Nat → Mem) → Mem → Prop) : Prop := ∀ (χ : Mem) (T : Nat → Mem) (σ : Mem) , Inv χ T σ → ∃ σ' : Mem, ∃ v : Int32, f_X10_could χ T = some v ∧ f_X11_could σ = some (σ', v) ∧ Inv χ T σ'
def St_body (Inv : Mem → (Nat → Mem) → Mem → Prop) : Prop := ∀ (χ : Mem) (T : Nat → Mem) (σ : Mem) (a1 : Int32) (a2 : Int32), Inv χ T σ → ∃ σ' : Mem, ∃ v : Int32, f_X10_body χ T a1 a2 = some v ∧ f_X11_body σ a1 a2 = some (σ', v) ∧ Inv χ T σ'
def St_plan (Inv : Mem → (Nat → Mem) → Mem → Prop) : Prop := ∀ (χ : Mem) (T : Nat → Mem) (σ : Mem) (a1 : Int32), Inv χ T σ → ∃ σ' : Mem, ∃ v : Int32, f_X10_plan χ T a1 = some v ∧ f_X11_plan σ a1 = some (σ', v) ∧ Inv χ T σ'
def St_cheapest (Inv : Mem → (Nat → Mem) → Mem → Prop) : Prop := ∀ (χ : Mem) (T : Nat → Mem) (σ : Mem) , Inv χ T σ → ∃ σ' : Mem, ∃ v : Int32, f_X10_cheapest χ T = some v ∧ f_X11_cheapest σ = some (σ', v) ∧ Inv χ T σ'
def St_tray (Inv : Mem → (Nat → Mem) → Mem → Prop) : Prop := ∀ (χ : Mem) (T : Nat → Mem) (σ : Mem) (a1 : Int32) (a2 : Int32) (a3 : Int32), Inv χ T σ → ∃ χ' : Mem, ∃ T' : Nat → Mem, ∃ σ' : Mem, ∃ v : Int32, f_X10_tray χ T a1 a2 a3 = some ((χ', T'), v) ∧ f_X11_tray σ a1 a2 a3 = some (σ', v) ∧ Inv χ' T' σ'
def St_forge (Inv : Mem → (Nat → Mem) → Mem → Prop) : Prop := ∀ (χ : Mem) (T : Nat → Mem) (σ : Mem) (a1 : Int32) (a2 : Int32) (a3 : Int32), Inv χ T σ → ∃ χ' : Mem, ∃ T' : Nat → Mem, ∃ σ' : Mem, ∃ v : Int32, f_X10_forge χ T a1 a2 a3 = some ((χ', T'), v) ∧ f_X11_forge σ a1 a2 a3 = some (σ', v) ∧ Inv χ' T' σ'
def St_status (Inv : Mem → (Nat → Mem) → Mem → Prop) : Prop := ∀ (χ : Mem) (T : Nat → Mem) (σ : Mem) , Inv χ T σ → ∃ v : Int32, f_X10_status χ T = some v ∧ f_X11_status σ = some v ∧ Inv χ T σ
/-- all that the law needs of the two sides -/
def LawOK (Inv : Mem → (Nat → Mem) → Mem → Prop) : Prop := Inv mem0 (fun _ => mem0) mem0 ∧ St_pin Inv ∧ St_move Inv ∧ St_hold Inv ∧ St_rod Inv ∧ St_put Inv ∧ St_count Inv ∧ St_pinTold Inv ∧ St_rodTold Inv ∧ St_motion Inv ∧ St_stress Inv ∧ St_stiff Inv ∧ St_tight Inv ∧ St_load Inv ∧ St_carry Inv ∧ St_force Inv ∧ St_gives Inv ∧ St_could Inv ∧ St_body Inv ∧ St_plan Inv ∧ St_cheapest Inv ∧ St_tray Inv ∧ St_forge Inv ∧ St_status Inv
theorem bm32 {n : Int} (h1 : -2147483648 ≤ n) (h2 : n < 2147483648) : n.bmod (2 ^ 32) = n := by
  rw [Int.bmod_def]; split <;> omega
theorem bz_or (x : Int32) : (if x = 0 then (0 : Int32) else 1) = 0 ∨ (if x = 0 then (0 : Int32) else 1) = 1 := by
  by_cases h : x = 0
  · rw [if_pos h]; exact Or.inl rfl
  · rw [if_neg h]; exact Or.inr rfl
theorem law_end {p : Program} {l : Launch} {e : Env} {s : State} {m : MethodId} {below : List Frame} {meth : Method} {c : Code} {g : Gc} {ad : Nat → Nat → Nat} {χ : Mem} {T : Nat → Mem} {σ : Mem} {cells slots b : Nat} {L0 : List (Nat × Value)} (C : Cx p s m #[.ref b] meth c cL_law 4 R_law ret COM g) (hg : g.2.2.2 = s.heap.size) (hc : cells ≤ 600000) (hsl : slots ≤ 7302250) : JJ p l e room_1 s m #[.ref b] below meth c 4 g ad (lw_Z below #[Value.ref b] s) χ T σ cells slots L0 850 [] := by
  refine j_iconst (v := 1) C (by decide) dL_law_850 ?_
  intro H locs ls hW hS hl
  refine va_forget (fun q hq => by have h := hS.2.2 q hq; rw [← hg]; exact h) ?_
  exact W.widen hc hsl (lw_ret C.x C.b C.r C.lk dL_law_851)
set_option maxRecDepth 100000 in
set_option maxHeartbeats 4000000 in
theorem law_loop {p : Program} {l : Launch} {e : Env} {s : State} {m : MethodId} {below : List Frame} {meth : Method} {c : Code} {g : Gc} {b L : Nat} {xs : Nat → Int32} {Inv : Mem → (Nat → Mem) → Mem → Prop} (hI : LawOK Inv) (C : Cx p s m #[.ref b] meth c cL_law 4 R_law ret COM g) (hg : g.2.2.2 = s.heap.size) (hX : va_X b L xs s s.heap) (hbl : b < s.heap.size) (hL : L ≤ 2560) : ∀ (n t : Nat) (ad : Nat → Nat → Nat) (χ : Mem) (T : Nat → Mem) (σ : Mem) (cells slots : Nat), Inv χ T σ → cells ≤ 1000 + 82 * t → slots ≤ 3000 + 1707 * t → 5 * t ≤ L → L < 5 * t + 5 * n →
    JJ p l e room_1 s m #[.ref b] below meth c 4 g ad (lw_Z below #[Value.ref b] s) χ T σ cells slots [(3, .int (nI (5 * t))), (2, .ref (ad 30 0)), (1, .ref (ad 0 0)), (0, .ref b)] 18 [] := by
  have hbA : ¬ geB g b := by show ¬ g.2.2.2 ≤ b; omega
  intro n
  induction n with
  | zero => intro t ad χ T σ cells slots _ _ _ h5 h6; omega
  | succ n ih =>
  intro t ad χ T σ cells slots hinv hc hsl h5 h6
  refine j_iload_n C 0 rfl rfl dL_law_18 ?_
  refine j_aload_n C 3 rfl rfl dL_law_19 ?_
  refine j_slen C hX hbl hbA dL_law_20 ?_
  refine j_iconst (v := 5) C (by decide) dL_law_21 ?_
  refine j_isub C dL_law_22 ?_
  refine j_icmp_gt (tgt := 850) C (by decide) dL_law_23 (fun hlt => ?_) (fun hlt => ?_)
  · exact law_end C hg (by omega) (by omega)
  have hi : 5 * t + 5 ≤ L := by
    have h1 : (nI L - 5).toInt = (L : Int) - 5 := by
      rw [Int32.toInt_sub, nI_toInt (by omega), show (5 : Int32).toInt = 5 from rfl]
      exact bm32 (by omega) (by omega)
    have h2 := Int32.not_lt.mp hlt
    rw [Int32.le_iff_toInt_le, h1, nI_toInt (by omega)] at h2
    omega
  have fin : ∀ (ad' : Nat → Nat → Nat) (χ' : Mem) (T' : Nat → Mem) (σ' : Mem) (cells' slots' : Nat), Inv χ' T' σ' → cells' ≤ cells + 82 → slots' ≤ slots + 1707 → JJ p l e room_1 s m #[.ref b] below meth c 4 g ad' (lw_Z below #[Value.ref b] s) χ' T' σ' cells' slots' [(3, .int (nI (5 * t))), (2, .ref (ad' 30 0)), (1, .ref (ad' 0 0)), (0, .ref b)] 844 [] := by
    intro ad' χ' T' σ' cells' slots' hinv' hc' hs'
    refine j_iinc (v := nI (5 * (t + 1))) (L' := [(3, .int (nI (5 * (t + 1)))), (2, .ref (ad' 30 0)), (1, .ref (ad' 0 0)), (0, .ref b)]) C 0 rfl (by rw [show 5 * (t + 1) = 5 * t + 5 by omega, ← nI_add1]; rfl) (by decide) rfl dL_law_844 ?_
    refine j_goto (tgt := 18) C (by decide) dL_law_847 ?_
    exact ih (t + 1) ad' χ' T' σ' cells' slots' hinv' (by omega) (by omega) (by omega) (by omega)
  refine j_aload_n C 3 rfl rfl dL_law_26 ?_
  refine j_iload_n C 0 rfl rfl dL_law_27 ?_
  refine j_sld C hX hbl hbA (inB_nI (by omega) (by omega)) dL_law_28 ?_
  refine j_bipush (v := 31) C (by decide) dL_law_29 ?_
  refine j_iand C dL_law_31 ?_
  generalize xs (nI (5 * t)).toNatClampNeg &&& 31 = sel
  obtain ⟨hI0, hI1, hI2, hI3, hI4, hI5, hI6, hI7, hI8, hI9, hI10, hI11, hI12, hI13, hI14, hI15, hI16, hI17, hI18, hI19, hI20, hI21, hI22, hI23⟩ := hI
  by_cases hs : sel.toInt < 0 ∨ 22 < sel.toInt
  · exact j_tableOut (tgt := 844) C hs (by decide) dL_law_32 (fin ad χ T σ cells slots hinv (by omega) (by omega))
  by_cases s0 : sel = (0 : Int32)
  · obtain ⟨χ1, T1, σ1, v, e1, e2, hi2⟩ := hI1 χ T σ (xs (5 * t + 1)) (xs (5 * t + 2)) hinv 
    refine j_tableIn (off := 108) (tgt := 140) C (fun q => hs (Or.inl q)) (fun q => hs (Or.inr q)) (by rw [s0]; rfl) (by decide) dL_law_32 ?_
    exact law_c0 C hX hbl hbA hi hL (by omega) (by omega) e1 e2 (fun ad1 => fin ad1 χ1 T1 σ1 _ _ hi2 (by omega) (by omega))
  by_cases s1 : sel = (1 : Int32)
  · obtain ⟨χ1, T1, σ1, v, e1, e2, hi2⟩ := hI2 χ T σ (xs (5 * t + 1)) (xs (5 * t + 2)) (xs (5 * t + 3)) hinv 
    refine j_tableIn (off := 141) (tgt := 173) C (fun q => hs (Or.inl q)) (fun q => hs (Or.inr q)) (by rw [s1]; rfl) (by decide) dL_law_32 ?_
    exact law_c1 C hX hbl hbA hi hL (by omega) (by omega) e1 e2 (fun ad1 => fin ad1 χ1 T1 σ1 _ _ hi2 (by omega) (by omega))
  by_cases s2 : sel = (2 : Int32)
  · obtain ⟨χ1, T1, σ1, v, e1, e2, hi2⟩ := hI3 χ T σ (xs (5 * t + 1)) (if (xs (5 * t + 2)) = 0 then 0 else 1) hinv (bz_or _)
    refine j_tableIn (off := 184) (tgt := 216) C (fun q => hs (Or.inl q)) (fun q => hs (Or.inr q)) (by rw [s2]; rfl) (by decide) dL_law_32 ?_
    exact law_c2 C hX hbl hbA hi hL (by omega) (by omega) e1 e2 (fun ad1 => fin ad1 χ1 T1 σ1 _ _ hi2 (by omega) (by omega))
  by_cases s3 : sel = (3 : Int32)
  · obtain ⟨χ1, T1, σ1, v, e1, e2, hi2⟩ := hI4 χ T σ (xs (5 * t + 1)) (xs (5 * t + 2)) (xs (5 * t + 3)) (xs (5 * t + 4)) hinv 
    refine j_tableIn (off := 233) (tgt := 265) C (fun q => hs (Or.inl q)) (fun q => hs (Or.inr q)) (by rw [s3]; rfl) (by decide) dL_law_32 ?_
    exact law_c3 C hX hbl hbA hi hL (by omega) (by omega) e1 e2 (fun ad1 => fin ad1 χ1 T1 σ1 _ _ hi2 (by omega) (by omega))
  by_cases s4 : sel = (4 : Int32)
  · obtain ⟨χ1, T1, σ1, v, e1, e2, hi2⟩ := hI5 χ T σ (xs (5 * t + 1)) (if (xs (5 * t + 2)) = 0 then 0 else 1) hinv (bz_or _)
    refine j_tableIn (off := 286) (tgt := 318) C (fun q => hs (Or.inl q)) (fun q => hs (Or.inr q)) (by rw [s4]; rfl) (by decide) dL_law_32 ?_
    exact law_c4 C hX hbl hbA hi hL (by omega) (by omega) e1 e2 (fun ad1 => fin ad1 χ1 T1 σ1 _ _ hi2 (by omega) (by omega))
  by_cases s5 : sel = (5 : Int32)
  · obtain ⟨σ1, v, e1, e2, hi2⟩ := hI6 χ T σ (xs (5 * t + 1)) hinv 
    refine j_tableIn (off := 335) (tgt := 367) C (fun q => hs (Or.inl q)) (fun q => hs (Or.inr q)) (by rw [s5]; rfl) (by decide) dL_law_32 ?_
    exact law_c5 C hX hbl hbA hi hL (by omega) (by omega) e1 e2 (fun ad1 => fin ad1 χ T σ1 _ _ hi2 (by omega) (by omega))
  by_cases s6 : sel = (6 : Int32)
  · obtain ⟨v, e1, e2, hi2⟩ := hI7 χ T σ (xs (5 * t + 1)) (xs (5 * t + 2)) hinv 
    refine j_tableIn (off := 358) (tgt := 390) C (fun q => hs (Or.inl q)) (fun q => hs (Or.inr q)) (by rw [s6]; rfl) (by decide) dL_law_32 ?_
    exact law_c6 C hX hbl hbA hi hL (by omega) (by omega) e1 e2 (fun ad1 => fin ad1 χ T σ _ _ hi2 (by omega) (by omega))
  by_cases s7 : sel = (7 : Int32)
  · obtain ⟨σ1, v, e1, e2, hi2⟩ := hI8 χ T σ (xs (5 * t + 1)) (xs (5 * t + 2)) hinv 
    refine j_tableIn (off := 391) (tgt := 423) C (fun q => hs (Or.inl q)) (fun q => hs (Or.inr q)) (by rw [s7]; rfl) (by decide) dL_law_32 ?_
    exact law_c7 C hX hbl hbA hi hL (by omega) (by omega) e1 e2 (fun ad1 => fin ad1 χ T σ1 _ _ hi2 (by omega) (by omega))
  by_cases s8 : sel = (8 : Int32)
  · obtain ⟨σ1, v, e1, e2, hi2⟩ := hI9 χ T σ (xs (5 * t + 1)) (xs (5 * t + 2)) (xs (5 * t + 3)) hinv 
    refine j_tableIn (off := 424) (tgt := 456) C (fun q => hs (Or.inl q)) (fun q => hs (Or.inr q)) (by rw [s8]; rfl) (by decide) dL_law_32 ?_
    exact law_c8 C hX hbl hbA hi hL (by omega) (by omega) e1 e2 (fun ad1 => fin ad1 χ T σ1 _ _ hi2 (by omega) (by omega))
  by_cases s9 : sel = (9 : Int32)
  · obtain ⟨σ1, v, e1, e2, hi2⟩ := hI10 χ T σ (xs (5 * t + 1)) (xs (5 * t + 2)) hinv 
    refine j_tableIn (off := 468) (tgt := 500) C (fun q => hs (Or.inl q)) (fun q => hs (Or.inr q)) (by rw [s9]; rfl) (by decide) dL_law_32 ?_
    exact law_c9 C hX hbl hbA hi hL (by omega) (by omega) e1 e2 (fun ad1 => fin ad1 χ T σ1 _ _ hi2 (by omega) (by omega))
  by_cases s10 : sel = (10 : Int32)
  · obtain ⟨σ1, v, e1, e2, hi2⟩ := hI11 χ T σ  hinv 
    refine j_tableIn (off := 502) (tgt := 534) C (fun q => hs (Or.inl q)) (fun q => hs (Or.inr q)) (by rw [s10]; rfl) (by decide) dL_law_32 ?_
    exact law_c10 C hX hbl hbA hi hL (by omega) (by omega) e1 e2 (fun ad1 => fin ad1 χ T σ1 _ _ hi2 (by omega) (by omega))
  by_cases s11 : sel = (11 : Int32)
  · obtain ⟨σ1, v, e1, e2, hi2⟩ := hI12 χ T σ  hinv 
    refine j_tableIn (off := 515) (tgt := 547) C (fun q => hs (Or.inl q)) (fun q => hs (Or.inr q)) (by rw [s11]; rfl) (by decide) dL_law_32 ?_
    exact law_c11 C hX hbl hbA hi hL (by omega) (by omega) e1 e2 (fun ad1 => fin ad1 χ T σ1 _ _ hi2 (by omega) (by omega))
  by_cases s12 : sel = (12 : Int32)
  · obtain ⟨χ1, T1, σ1, v, e1, e2, hi2⟩ := hI13 χ T σ (xs (5 * t + 1)) (xs (5 * t + 2)) (xs (5 * t + 3)) hinv 
    refine j_tableIn (off := 528) (tgt := 560) C (fun q => hs (Or.inl q)) (fun q => hs (Or.inr q)) (by rw [s12]; rfl) (by decide) dL_law_32 ?_
    exact law_c12 C hX hbl hbA hi hL (by omega) (by omega) e1 e2 (fun ad1 => fin ad1 χ1 T1 σ1 _ _ hi2 (by omega) (by omega))
  by_cases s13 : sel = (13 : Int32)
  · obtain ⟨σ1, v, e1, e2, hi2⟩ := hI14 χ T σ  hinv 
    refine j_tableIn (off := 571) (tgt := 603) C (fun q => hs (Or.inl q)) (fun q => hs (Or.inr q)) (by rw [s13]; rfl) (by decide) dL_law_32 ?_
    exact law_c13 C hX hbl hbA hi hL (by omega) (by omega) e1 e2 (fun ad1 => fin ad1 χ T σ1 _ _ hi2 (by omega) (by omega))
  by_cases s14 : sel = (14 : Int32)
  · obtain ⟨σ1, v, e1, e2, hi2⟩ := hI15 χ T σ (xs (5 * t + 1)) (xs (5 * t + 2)) hinv 
    refine j_tableIn (off := 584) (tgt := 616) C (fun q => hs (Or.inl q)) (fun q => hs (Or.inr q)) (by rw [s14]; rfl) (by decide) dL_law_32 ?_
    exact law_c14 C hX hbl hbA hi hL (by omega) (by omega) e1 e2 (fun ad1 => fin ad1 χ T σ1 _ _ hi2 (by omega) (by omega))
  by_cases s15 : sel = (15 : Int32)
  · obtain ⟨σ1, v, e1, e2, hi2⟩ := hI16 χ T σ  hinv 
    refine j_tableIn (off := 618) (tgt := 650) C (fun q => hs (Or.inl q)) (fun q => hs (Or.inr q)) (by rw [s15]; rfl) (by decide) dL_law_32 ?_
    exact law_c15 C hX hbl hbA hi hL (by omega) (by omega) e1 e2 (fun ad1 => fin ad1 χ T σ1 _ _ hi2 (by omega) (by omega))
  by_cases s16 : sel = (16 : Int32)
  · obtain ⟨σ1, v, e1, e2, hi2⟩ := hI17 χ T σ  hinv 
    refine j_tableIn (off := 631) (tgt := 663) C (fun q => hs (Or.inl q)) (fun q => hs (Or.inr q)) (by rw [s16]; rfl) (by decide) dL_law_32 ?_
    exact law_c16 C hX hbl hbA hi hL (by omega) (by omega) e1 e2 (fun ad1 => fin ad1 χ T σ1 _ _ hi2 (by omega) (by omega))
  by_cases s17 : sel = (17 : Int32)
  · obtain ⟨σ1, v, e1, e2, hi2⟩ := hI18 χ T σ (xs (5 * t + 1)) (xs (5 * t + 2)) hinv 
    refine j_tableIn (off := 644) (tgt := 676) C (fun q => hs (Or.inl q)) (fun q => hs (Or.inr q)) (by rw [s17]; rfl) (by decide) dL_law_32 ?_
    exact law_c17 C hX hbl hbA hi hL (by omega) (by omega) e1 e2 (fun ad1 => fin ad1 χ T σ1 _ _ hi2 (by omega) (by omega))
  by_cases s18 : sel = (18 : Int32)
  · obtain ⟨σ1, v, e1, e2, hi2⟩ := hI19 χ T σ (xs (5 * t + 1)) hinv 
    refine j_tableIn (off := 677) (tgt := 709) C (fun q => hs (Or.inl q)) (fun q => hs (Or.inr q)) (by rw [s18]; rfl) (by decide) dL_law_32 ?_
    exact law_c18 C hX hbl hbA hi hL (by omega) (by omega) e1 e2 (fun ad1 => fin ad1 χ T σ1 _ _ hi2 (by omega) (by omega))
  by_cases s19 : sel = (19 : Int32)
  · obtain ⟨σ1, v, e1, e2, hi2⟩ := hI20 χ T σ  hinv 
    refine j_tableIn (off := 700) (tgt := 732) C (fun q => hs (Or.inl q)) (fun q => hs (Or.inr q)) (by rw [s19]; rfl) (by decide) dL_law_32 ?_
    exact law_c19 C hX hbl hbA hi hL (by omega) (by omega) e1 e2 (fun ad1 => fin ad1 χ T σ1 _ _ hi2 (by omega) (by omega))
  by_cases s20 : sel = (20 : Int32)
  · obtain ⟨χ1, T1, σ1, v, e1, e2, hi2⟩ := hI21 χ T σ (xs (5 * t + 1)) (xs (5 * t + 2)) (xs (5 * t + 3)) hinv 
    refine j_tableIn (off := 713) (tgt := 745) C (fun q => hs (Or.inl q)) (fun q => hs (Or.inr q)) (by rw [s20]; rfl) (by decide) dL_law_32 ?_
    exact law_c20 C hX hbl hbA hi hL (by omega) (by omega) e1 e2 (fun ad1 => fin ad1 χ1 T1 σ1 _ _ hi2 (by omega) (by omega))
  by_cases s21 : sel = (21 : Int32)
  · obtain ⟨χ1, T1, σ1, v, e1, e2, hi2⟩ := hI22 χ T σ (xs (5 * t + 1)) (xs (5 * t + 2)) (xs (5 * t + 3)) hinv 
    refine j_tableIn (off := 756) (tgt := 788) C (fun q => hs (Or.inl q)) (fun q => hs (Or.inr q)) (by rw [s21]; rfl) (by decide) dL_law_32 ?_
    exact law_c21 C hX hbl hbA hi hL (by omega) (by omega) e1 e2 (fun ad1 => fin ad1 χ1 T1 σ1 _ _ hi2 (by omega) (by omega))
  by_cases s22 : sel = (22 : Int32)
  · obtain ⟨v, e1, e2, hi2⟩ := hI23 χ T σ  hinv 
    refine j_tableIn (off := 799) (tgt := 831) C (fun q => hs (Or.inl q)) (fun q => hs (Or.inr q)) (by rw [s22]; rfl) (by decide) dL_law_32 ?_
    exact law_c22 C hX hbl hbA hi hL (by omega) (by omega) e1 e2 (fun ad1 => fin ad1 χ T σ _ _ hi2 (by omega) (by omega))
  exfalso
  have h0 : 0 ≤ sel.toInt := by omega
  have h22 : sel.toInt ≤ 22 := by omega
  have key : ∀ k : Int32, sel.toInt = k.toInt → sel = k := fun k h => Int32.toInt_inj.mp h
  have n0 : sel.toInt ≠ 0 := fun h => s0 (key (0 : Int32) (by rw [h]; rfl))
  have n1 : sel.toInt ≠ 1 := fun h => s1 (key (1 : Int32) (by rw [h]; rfl))
  have n2 : sel.toInt ≠ 2 := fun h => s2 (key (2 : Int32) (by rw [h]; rfl))
  have n3 : sel.toInt ≠ 3 := fun h => s3 (key (3 : Int32) (by rw [h]; rfl))
  have n4 : sel.toInt ≠ 4 := fun h => s4 (key (4 : Int32) (by rw [h]; rfl))
  have n5 : sel.toInt ≠ 5 := fun h => s5 (key (5 : Int32) (by rw [h]; rfl))
  have n6 : sel.toInt ≠ 6 := fun h => s6 (key (6 : Int32) (by rw [h]; rfl))
  have n7 : sel.toInt ≠ 7 := fun h => s7 (key (7 : Int32) (by rw [h]; rfl))
  have n8 : sel.toInt ≠ 8 := fun h => s8 (key (8 : Int32) (by rw [h]; rfl))
  have n9 : sel.toInt ≠ 9 := fun h => s9 (key (9 : Int32) (by rw [h]; rfl))
  have n10 : sel.toInt ≠ 10 := fun h => s10 (key (10 : Int32) (by rw [h]; rfl))
  have n11 : sel.toInt ≠ 11 := fun h => s11 (key (11 : Int32) (by rw [h]; rfl))
  have n12 : sel.toInt ≠ 12 := fun h => s12 (key (12 : Int32) (by rw [h]; rfl))
  have n13 : sel.toInt ≠ 13 := fun h => s13 (key (13 : Int32) (by rw [h]; rfl))
  have n14 : sel.toInt ≠ 14 := fun h => s14 (key (14 : Int32) (by rw [h]; rfl))
  have n15 : sel.toInt ≠ 15 := fun h => s15 (key (15 : Int32) (by rw [h]; rfl))
  have n16 : sel.toInt ≠ 16 := fun h => s16 (key (16 : Int32) (by rw [h]; rfl))
  have n17 : sel.toInt ≠ 17 := fun h => s17 (key (17 : Int32) (by rw [h]; rfl))
  have n18 : sel.toInt ≠ 18 := fun h => s18 (key (18 : Int32) (by rw [h]; rfl))
  have n19 : sel.toInt ≠ 19 := fun h => s19 (key (19 : Int32) (by rw [h]; rfl))
  have n20 : sel.toInt ≠ 20 := fun h => s20 (key (20 : Int32) (by rw [h]; rfl))
  have n21 : sel.toInt ≠ 21 := fun h => s21 (key (21 : Int32) (by rw [h]; rfl))
  have n22 : sel.toInt ≠ 22 := fun h => s22 (key (22 : Int32) (by rw [h]; rfl))
  omega
