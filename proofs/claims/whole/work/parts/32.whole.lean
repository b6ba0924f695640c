set_option maxRecDepth 100000 in
set_option maxHeartbeats 4000000 in
theorem whole_of {Inv : Mem → (Nat → Mem) → Mem → Prop} (hI : LawOK Inv) {p : Program} {e : Env} {s : State} {m : MethodId} {below : List Frame} {meth : Method} {c : Code} (l : Launch) {b L : Nat} {xs : Nat → Int32} (hL : L ≤ 2560) (C0 : lw_At p s m meth c b L xs) : W p l e room_1 s m #[Value.ref b] below meth c s.heap [] 0 0 (lw_Z below #[Value.ref b] s) (entryFrame m ([Value.ref b] : List Value).toArray 4) := by
  obtain ⟨g, hck, hcz, hg, hao⟩ := ck_start C0
  obtain ⟨hx, hb, hr, hml, hown, hts, hX, hbl, hlocks, hgv⟩ := id C0
  have C : Cx p s m #[.ref b] meth c cL_law 4 R_law ret COM g := ⟨hx, hb, hml, hown, fun w hw => hts w (com_in hw), hck, hcz, hr, hlocks, by rw [hg]; exact Nat.le_refl _⟩
  have hAf : ∀ q : Nat, s.heap.size ≤ q → geB g q := C.hA
  have hl := lv_entry ([.ref b]) (n := 4) (Nat.le_of_ble_eq_true rfl)
  rw [lg_entry_eq]
  have goal : JG p l e room_1 s m #[.ref b] below meth c 4 (geB g) (lw_Z below #[Value.ref b] s) (VW g (geB g) []) 0 0 (lv_args 0 [.ref b]) 0 [] := by
    refine j_sub [0] rfl ?_
    refine k_newO C hAf in_X10 tyX10_ok mw_84 mw_85 mw_63 (show vwCl[10]? = some (RX10, TX10, 5) from rfl) fs_X10 (Nat.le_of_ble_eq_true rfl) (Nat.le_of_ble_eq_true rfl) dL_law_0 (fun q0 => ?_)
    refine k_ws (ws' := [(q0, .inr (10, [.null, .null, .null, .null, .null]))]) rfl ?_
    refine j_dup C rfl dL_law_3 ?_
    refine k_callK (As := []) C hao (fun q h => h) hAf (q0 := 0) (fun sz => c_X10_init (lo := q0) sz) (cwI 0 C.ts (good_WS mw_88) rfl rfl rfl (C.ts _ mw_63) (C.ts _ mw_86) (C.ts _ mw_87) rfl (by decide +kernel) ⟨(Nat.le_of_ble_eq_true rfl), (Nat.le_of_ble_eq_true rfl)⟩) rfl rfl rfl (Nat.le_of_ble_eq_true rfl) dL_law_4 ⟨(Nat.le_of_ble_eq_true rfl), (Nat.le_of_ble_eq_true rfl)⟩ (fun e1 r hok => ?_)
    obtain ⟨z, zf, zb, z0, z1, zo, z2, zd, zt, rfl, rfl⟩ := hok
    refine k_ws (ws' := (q0, benE z) :: benR g z zf zb z0 z1 zo z2 zd zt) rfl ?_
    refine j_astore_n (L' := [(1, .ref q0), (0, .ref b)]) C rfl (by decide) rfl dL_law_7 ?_
    refine k_newO C hAf in_X11 tyX11_ok mw_999 mw_1000 mw_73 (show vwCl[11]? = some (RX11, TX11, 32) from rfl) fs_X11 (Nat.le_of_ble_eq_true rfl) (Nat.le_of_ble_eq_true rfl) dL_law_8 (fun q1 => ?_)
    refine k_ws (ws' := (q0, benE z) :: (benR g z zf zb z0 z1 zo z2 zd zt ++ [(q1, .inr (11, [.int 0, .int 0, .null, .null, .null, .null, .null, .null, .null, .null, .null, .null, .null, .int 0, .int 0, .null, .null, .null, .int 0, .null, .null, .null, .null, .int 0, .null, .null, .null, .null, .null, .null, .int 0, .null]))])) rfl ?_
    refine j_dup C rfl dL_law_11 ?_
    refine k_callK (As := []) C hao (fun q h => h) hAf (q0 := 78) (fun sz => c_X11_init (lo := q1) sz) (cwI 0 C.ts (good_WS mw_1003) rfl rfl rfl (C.ts _ mw_73) (C.ts _ mw_1001) (C.ts _ mw_1002) rfl (by decide +kernel) ⟨(Nat.le_of_ble_eq_true rfl), (Nat.le_of_ble_eq_true rfl)⟩) rfl rfl rfl (Nat.le_of_ble_eq_true rfl) dL_law_12 ⟨(Nat.le_of_ble_eq_true rfl), (Nat.le_of_ble_eq_true rfl)⟩ (fun e1 r hok => ?_)
    obtain ⟨zm, rfl, rfl⟩ := hok
    refine k_ws (ws' := wsAll g q0 z zf zb z0 z1 zo z2 zd zt q1 zm) rfl ?_
    refine j_astore_n (L' := [(2, .ref q1), (1, .ref q0), (0, .ref b)]) C rfl (by decide) rfl dL_law_15 ?_
    refine j_iconst (v := 0) C (by decide) dL_law_16 ?_
    refine j_istore_n (L' := [(3, .int 0), (2, .ref q1), (1, .ref q0), (0, .ref b)]) C rfl (by decide) rfl dL_law_17 ?_
    intro H locs ls hW hS hl
    have hW1 := CW.start hW (fun q h => h) (Nat.le_trans C.bs hS.1)
    exact law_loop hI C hg hX hbl hL (L + 1) 0 (adS q0 z zf zb z0 z1 zo z2 zd zt q1 zm) mem0 (fun _ => mem0) mem0 _ _ hI.1 (by decide) (by decide) (Nat.zero_le _) (by omega) H locs ls hW1 hS hl
  exact goal s.heap [] _ ⟨fun k x hx => by simp at hx, fun i j x y hi => by simp at hi, fun k x hx => by simp at hx⟩ va_S.rf hl
