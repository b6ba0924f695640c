def mem0 : Mem := (fun _ _ => 0, fun _ _ => 0, fun _ _ => 0)
def eta0 : Hid := (fun _ => 0, fun _ => false, fun _ => 0, fun _ _ => none, fun _ => 0)
def adS (b : Nat) (z zf zb z0 z1 zo z2 zd zt : Nat → Nat) (mo : Nat) (zm : Nat → Nat) : Nat → Nat → Nat := fun k i => match k with
  | 0 => b
  | 1 => z 0
  | 2 => z 1
  | 3 => z 2
  | 4 => z 3
  | 5 => z 4
  | 6 => zd 0
  | 7 => zd 1
  | 8 => zt 0
  | 9 => (match i with | 0 => zb 0 | 1 => zb 1 | _ => zo 2)
  | 10 => (match i with | 0 => z0 0 | 1 => z1 0 | _ => z2 0)
  | 11 => (if i < 15 then z0 0 + 1 + i else if i < 30 then z1 0 + 1 + (i - 15) else z2 0 + 1 + (i - 30))
  | 12 => (match i with | 0 => z0 1 | 1 => z1 1 | _ => z2 1)
  | 13 => (match i with | 0 => z0 2 | 1 => z1 2 | _ => z2 2)
  | 14 => (match i with | 0 => z0 3 | 1 => z1 3 | _ => z2 3)
  | 15 => (match i with | 0 => z0 4 | 1 => z1 4 | _ => z2 4)
  | 16 => (match i with | 0 => zf 0 | 1 => zf 1 | 2 => zf 2 | 3 => zf 3 | 4 => zo 0 | _ => zo 1)
  | 30 => mo
  | 31 => zm i
  | _ => 0
def pkL : List (Nat × Nat) := [(0, 0), (1, 0), (16, 0), (16, 1), (16, 2), (16, 3), (2, 0), (9, 0), (10, 0), (11, 0), (11, 1), (11, 2), (11, 3), (11, 4), (11, 5), (11, 6), (11, 7), (11, 8), (11, 9), (11, 10), (11, 11), (11, 12), (11, 13), (11, 14), (12, 0), (13, 0), (14, 0), (15, 0), (9, 1), (10, 1), (11, 15), (11, 16), (11, 17), (11, 18), (11, 19), (11, 20), (11, 21), (11, 22), (11, 23), (11, 24), (11, 25), (11, 26), (11, 27), (11, 28), (11, 29), (12, 1), (13, 1), (14, 1), (15, 1), (3, 0), (16, 4), (16, 5), (9, 2), (10, 2), (11, 30), (11, 31), (11, 32), (11, 33), (11, 34), (11, 35), (11, 36), (11, 37), (11, 38), (11, 39), (11, 40), (11, 41), (11, 42), (11, 43), (11, 44), (12, 2), (13, 2), (14, 2), (15, 2), (4, 0), (6, 0), (7, 0), (5, 0), (8, 0), (30, 0), (31, 2), (31, 3), (31, 4), (31, 5), (31, 6), (31, 7), (31, 8), (31, 9), (31, 10), (31, 11), (31, 12), (31, 15), (31, 16), (31, 17), (31, 19), (31, 20), (31, 21), (31, 22), (31, 24), (31, 25), (31, 26), (31, 27), (31, 28), (31, 29), (31, 31)]
abbrev wsAll (g : Gc) (b : Nat) (z zf zb z0 z1 zo z2 zd zt : Nat → Nat) (mo : Nat) (zm : Nat → Nat) : va_W := (b, benE z) :: (benR g z zf zb z0 z1 zo z2 zd zt ++ ((mo, modE zm) :: modR g zm))
theorem th0 {ad : Nat → Nat → Nat} : (fun t => if t < 6 then thA ad (gN mem0 10 t) else none) = fun _ => none := by
  funext t
  by_cases h : t < 6
  · rw [if_pos h]; rfl
  · rw [if_neg h]
set_option maxRecDepth 100000 in
set_option maxHeartbeats 4000000 in
theorem start_ent {g : Gc} {b : Nat} {z zf zb z0 z1 zo z2 zd zt : Nat → Nat} {mo : Nat} {zm : Nat → Nat} (k i : Nat) (e : va_E) (h : cw g (adS b z zf zb z0 z1 zo z2 zd zt mo zm) mem0 (fun _ => mem0) mem0 eta0 k i = some e) : ∃ n : Nat, (wsAll g b z zf zb z0 z1 zo z2 zd zt mo zm)[n]? = some (adS b z zf zb z0 z1 zo z2 zd zt mo zm k i, e) ∧ pkL[n]? = some (k, i) := by
  by_cases k0 : k = 0
  · subst k0
    by_cases hi : i = 0
    · subst hi
      obtain rfl := Option.some.inj ((cw_0 eta0).symm.trans h)
      exact ⟨0, rfl, rfl⟩
    · have h2 : (if i = 0 then _ else none) = some e := h
      rw [if_neg hi] at h2; cases h2
  by_cases k1 : k = 1
  · subst k1
    by_cases hi : i = 0
    · subst hi
      obtain rfl := Option.some.inj ((cw_1 eta0).symm.trans h)
      exact ⟨1, rfl, rfl⟩
    · have h2 : (if i = 0 then _ else none) = some e := h
      rw [if_neg hi] at h2; cases h2
  by_cases k2 : k = 2
  · subst k2
    by_cases hi : i = 0
    · subst hi
      obtain rfl := Option.some.inj ((cw_2 eta0).symm.trans h)
      exact ⟨6, rfl, rfl⟩
    · have h2 : (if i = 0 then _ else none) = some e := h
      rw [if_neg hi] at h2; cases h2
  by_cases k3 : k = 3
  · subst k3
    by_cases hi : i = 0
    · subst hi
      obtain rfl := Option.some.inj ((cw_3 eta0).symm.trans h)
      exact ⟨49, rfl, rfl⟩
    · have h2 : (if i = 0 then _ else none) = some e := h
      rw [if_neg hi] at h2; cases h2
  by_cases k4 : k = 4
  · subst k4
    by_cases hi : i = 0
    · subst hi
      obtain rfl := Option.some.inj ((cw_4 eta0).symm.trans h)
      exact ⟨73, rfl, rfl⟩
    · have h2 : (if i = 0 then _ else none) = some e := h
      rw [if_neg hi] at h2; cases h2
  by_cases k5 : k = 5
  · subst k5
    by_cases hi : i = 0
    · subst hi
      obtain rfl := Option.some.inj ((cw_5 eta0).symm.trans h)
      exact ⟨76, rfl, rfl⟩
    · have h2 : (if i = 0 then _ else none) = some e := h
      rw [if_neg hi] at h2; cases h2
  by_cases k6 : k = 6
  · subst k6
    by_cases hi : i = 0
    · subst hi
      obtain rfl := Option.some.inj ((cw_6 eta0).symm.trans h)
      exact ⟨74, rfl, rfl⟩
    · have h2 : (if i = 0 then _ else none) = some e := h
      rw [if_neg hi] at h2; cases h2
  by_cases k7 : k = 7
  · subst k7
    by_cases hi : i = 0
    · subst hi
      obtain rfl := Option.some.inj ((cw_7 eta0).symm.trans h)
      exact ⟨75, rfl, rfl⟩
    · have h2 : (if i = 0 then _ else none) = some e := h
      rw [if_neg hi] at h2; cases h2
  by_cases k8 : k = 8
  · subst k8
    by_cases hi : i = 0
    · subst hi
      have e2 := (cw_8 eta0).symm.trans h
      rw [th0] at e2
      cases e2
      exact ⟨77, rfl, rfl⟩
    · have h2 : (if i = 0 then _ else none) = some e := h
      rw [if_neg hi] at h2; cases h2
  by_cases k9 : k = 9
  · subst k9
    by_cases hi : i < 3
    · obtain rfl := Option.some.inj ((cw_9 hi eta0).symm.trans h)
      rcases (show i = 0 ∨ i = 1 ∨ i = 2 by omega) with rfl | rfl | rfl
      · exact ⟨7, rfl, rfl⟩
      · exact ⟨28, rfl, rfl⟩
      · exact ⟨52, rfl, rfl⟩
    · have h2 : (if i < 3 then _ else none) = some e := h
      rw [if_neg hi] at h2; cases h2
  by_cases k10 : k = 10
  · subst k10
    by_cases hi : i < 3
    · obtain rfl := Option.some.inj ((cw_10 hi eta0).symm.trans h)
      rcases (show i = 0 ∨ i = 1 ∨ i = 2 by omega) with rfl | rfl | rfl
      · have e9 : (fun r => if r < 15 then some (adS b z zf zb z0 z1 zo z2 zd zt mo zm 11 (15 * 0 + r)) else none) = (fun r => if r < 15 then some (z0 0 + 1 + r) else none) := by
          funext r
          by_cases hr : r < 15
          · rw [if_pos hr, if_pos hr]
            show some (if 15 * 0 + r < 15 then z0 0 + 1 + (15 * 0 + r) else if 15 * 0 + r < 30 then z1 0 + 1 + (15 * 0 + r - 15) else z2 0 + 1 + (15 * 0 + r - 30)) = some (z0 0 + 1 + r)
            rw [if_pos (by omega)]; congr 2; omega
          · rw [if_neg hr, if_neg hr]
        rw [e9]
        exact ⟨8, rfl, rfl⟩
      · have e9 : (fun r => if r < 15 then some (adS b z zf zb z0 z1 zo z2 zd zt mo zm 11 (15 * 1 + r)) else none) = (fun r => if r < 15 then some (z1 0 + 1 + r) else none) := by
          funext r
          by_cases hr : r < 15
          · rw [if_pos hr, if_pos hr]
            show some (if 15 * 1 + r < 15 then z0 0 + 1 + (15 * 1 + r) else if 15 * 1 + r < 30 then z1 0 + 1 + (15 * 1 + r - 15) else z2 0 + 1 + (15 * 1 + r - 30)) = some (z1 0 + 1 + r)
            rw [if_neg (by omega), if_pos (by omega)]; congr 2; omega
          · rw [if_neg hr, if_neg hr]
        rw [e9]
        exact ⟨29, rfl, rfl⟩
      · have e9 : (fun r => if r < 15 then some (adS b z zf zb z0 z1 zo z2 zd zt mo zm 11 (15 * 2 + r)) else none) = (fun r => if r < 15 then some (z2 0 + 1 + r) else none) := by
          funext r
          by_cases hr : r < 15
          · rw [if_pos hr, if_pos hr]
            show some (if 15 * 2 + r < 15 then z0 0 + 1 + (15 * 2 + r) else if 15 * 2 + r < 30 then z1 0 + 1 + (15 * 2 + r - 15) else z2 0 + 1 + (15 * 2 + r - 30)) = some (z2 0 + 1 + r)
            rw [if_neg (by omega), if_neg (by omega)]; congr 2; omega
          · rw [if_neg hr, if_neg hr]
        rw [e9]
        exact ⟨53, rfl, rfl⟩
    · have h2 : (if i < 3 then _ else none) = some e := h
      rw [if_neg hi] at h2; cases h2
  by_cases k11 : k = 11
  · subst k11
    by_cases hi : i < 45
    · obtain rfl := Option.some.inj ((cw_11 hi eta0).symm.trans h)
      rcases (show i = 0 ∨ i = 1 ∨ i = 2 ∨ i = 3 ∨ i = 4 ∨ i = 5 ∨ i = 6 ∨ i = 7 ∨ i = 8 ∨ i = 9 ∨ i = 10 ∨ i = 11 ∨ i = 12 ∨ i = 13 ∨ i = 14 ∨ i = 15 ∨ i = 16 ∨ i = 17 ∨ i = 18 ∨ i = 19 ∨ i = 20 ∨ i = 21 ∨ i = 22 ∨ i = 23 ∨ i = 24 ∨ i = 25 ∨ i = 26 ∨ i = 27 ∨ i = 28 ∨ i = 29 ∨ i = 30 ∨ i = 31 ∨ i = 32 ∨ i = 33 ∨ i = 34 ∨ i = 35 ∨ i = 36 ∨ i = 37 ∨ i = 38 ∨ i = 39 ∨ i = 40 ∨ i = 41 ∨ i = 42 ∨ i = 43 ∨ i = 44 by omega) with rfl | rfl | rfl | rfl | rfl | rfl | rfl | rfl | rfl | rfl | rfl | rfl | rfl | rfl | rfl | rfl | rfl | rfl | rfl | rfl | rfl | rfl | rfl | rfl | rfl | rfl | rfl | rfl | rfl | rfl | rfl | rfl | rfl | rfl | rfl | rfl | rfl | rfl | rfl | rfl | rfl | rfl | rfl | rfl | rfl
      · exact ⟨9, rfl, rfl⟩
      · exact ⟨10, rfl, rfl⟩
      · exact ⟨11, rfl, rfl⟩
      · exact ⟨12, rfl, rfl⟩
      · exact ⟨13, rfl, rfl⟩
      · exact ⟨14, rfl, rfl⟩
      · exact ⟨15, rfl, rfl⟩
      · exact ⟨16, rfl, rfl⟩
      · exact ⟨17, rfl, rfl⟩
      · exact ⟨18, rfl, rfl⟩
      · exact ⟨19, rfl, rfl⟩
      · exact ⟨20, rfl, rfl⟩
      · exact ⟨21, rfl, rfl⟩
      · exact ⟨22, rfl, rfl⟩
      · exact ⟨23, rfl, rfl⟩
      · exact ⟨30, rfl, rfl⟩
      · exact ⟨31, rfl, rfl⟩
      · exact ⟨32, rfl, rfl⟩
      · exact ⟨33, rfl, rfl⟩
      · exact ⟨34, rfl, rfl⟩
      · exact ⟨35, rfl, rfl⟩
      · exact ⟨36, rfl, rfl⟩
      · exact ⟨37, rfl, rfl⟩
      · exact ⟨38, rfl, rfl⟩
      · exact ⟨39, rfl, rfl⟩
      · exact ⟨40, rfl, rfl⟩
      · exact ⟨41, rfl, rfl⟩
      · exact ⟨42, rfl, rfl⟩
      · exact ⟨43, rfl, rfl⟩
      · exact ⟨44, rfl, rfl⟩
      · exact ⟨54, rfl, rfl⟩
      · exact ⟨55, rfl, rfl⟩
      · exact ⟨56, rfl, rfl⟩
      · exact ⟨57, rfl, rfl⟩
      · exact ⟨58, rfl, rfl⟩
      · exact ⟨59, rfl, rfl⟩
      · exact ⟨60, rfl, rfl⟩
      · exact ⟨61, rfl, rfl⟩
      · exact ⟨62, rfl, rfl⟩
      · exact ⟨63, rfl, rfl⟩
      · exact ⟨64, rfl, rfl⟩
      · exact ⟨65, rfl, rfl⟩
      · exact ⟨66, rfl, rfl⟩
      · exact ⟨67, rfl, rfl⟩
      · exact ⟨68, rfl, rfl⟩
    · have h2 : (if i < 45 then _ else none) = some e := h
      rw [if_neg hi] at h2; cases h2
  by_cases k12 : k = 12
  · subst k12
    by_cases hi : i < 3
    · obtain rfl := Option.some.inj ((cw_12 hi eta0).symm.trans h)
      rcases (show i = 0 ∨ i = 1 ∨ i = 2 by omega) with rfl | rfl | rfl
      · exact ⟨24, rfl, rfl⟩
      · exact ⟨45, rfl, rfl⟩
      · exact ⟨69, rfl, rfl⟩
    · have h2 : (if i < 3 then _ else none) = some e := h
      rw [if_neg hi] at h2; cases h2
  by_cases k13 : k = 13
  · subst k13
    by_cases hi : i < 3
    · obtain rfl := Option.some.inj ((cw_13 hi eta0).symm.trans h)
      rcases (show i = 0 ∨ i = 1 ∨ i = 2 by omega) with rfl | rfl | rfl
      · exact ⟨25, rfl, rfl⟩
      · exact ⟨46, rfl, rfl⟩
      · exact ⟨70, rfl, rfl⟩
    · have h2 : (if i < 3 then _ else none) = some e := h
      rw [if_neg hi] at h2; cases h2
  by_cases k14 : k = 14
  · subst k14
    by_cases hi : i < 3
    · obtain rfl := Option.some.inj ((cw_14 hi eta0).symm.trans h)
      rcases (show i = 0 ∨ i = 1 ∨ i = 2 by omega) with rfl | rfl | rfl
      · exact ⟨26, rfl, rfl⟩
      · exact ⟨47, rfl, rfl⟩
      · exact ⟨71, rfl, rfl⟩
    · have h2 : (if i < 3 then _ else none) = some e := h
      rw [if_neg hi] at h2; cases h2
  by_cases k15 : k = 15
  · subst k15
    by_cases hi : i < 3
    · obtain rfl := Option.some.inj ((cw_15 hi eta0).symm.trans h)
      rcases (show i = 0 ∨ i = 1 ∨ i = 2 by omega) with rfl | rfl | rfl
      · exact ⟨27, rfl, rfl⟩
      · exact ⟨48, rfl, rfl⟩
      · exact ⟨72, rfl, rfl⟩
    · have h2 : (if i < 3 then _ else none) = some e := h
      rw [if_neg hi] at h2; cases h2
  by_cases k16 : k = 16
  · subst k16
    by_cases hi : i < 6
    · obtain rfl := Option.some.inj ((cw_16 eta0 hi).symm.trans h)
      rcases (show i = 0 ∨ i = 1 ∨ i = 2 ∨ i = 3 ∨ i = 4 ∨ i = 5 by omega) with rfl | rfl | rfl | rfl | rfl | rfl
      · exact ⟨2, rfl, rfl⟩
      · exact ⟨3, rfl, rfl⟩
      · exact ⟨4, rfl, rfl⟩
      · exact ⟨5, rfl, rfl⟩
      · exact ⟨50, rfl, rfl⟩
      · exact ⟨51, rfl, rfl⟩
    · have h2 : (if i < 6 then _ else none) = some e := h
      rw [if_neg hi] at h2; cases h2
  by_cases k30 : k = 30
  · subst k30
    by_cases hi : i = 0
    · subst hi
      obtain rfl := Option.some.inj ((cw_30 eta0).symm.trans h)
      exact ⟨78, rfl, rfl⟩
    · have h2 : (if i = 0 then _ else none) = some e := h
      rw [if_neg hi] at h2; cases h2
  by_cases k31 : k = 31
  · subst k31
    by_cases i2 : i = 2
    · subst i2
      obtain rfl := Option.some.inj ((cw_31_2 eta0).symm.trans h)
      exact ⟨79, rfl, rfl⟩
    by_cases i3 : i = 3
    · subst i3
      obtain rfl := Option.some.inj ((cw_31_3 eta0).symm.trans h)
      exact ⟨80, rfl, rfl⟩
    by_cases i4 : i = 4
    · subst i4
      obtain rfl := Option.some.inj ((cw_31_4 eta0).symm.trans h)
      exact ⟨81, rfl, rfl⟩
    by_cases i5 : i = 5
    · subst i5
      obtain rfl := Option.some.inj ((cw_31_5 eta0).symm.trans h)
      exact ⟨82, rfl, rfl⟩
    by_cases i6 : i = 6
    · subst i6
      obtain rfl := Option.some.inj ((cw_31_6 eta0).symm.trans h)
      exact ⟨83, rfl, rfl⟩
    by_cases i7 : i = 7
    · subst i7
      obtain rfl := Option.some.inj ((cw_31_7 eta0).symm.trans h)
      exact ⟨84, rfl, rfl⟩
    by_cases i8 : i = 8
    · subst i8
      obtain rfl := Option.some.inj ((cw_31_8 eta0).symm.trans h)
      exact ⟨85, rfl, rfl⟩
    by_cases i9 : i = 9
    · subst i9
      obtain rfl := Option.some.inj ((cw_31_9 eta0).symm.trans h)
      exact ⟨86, rfl, rfl⟩
    by_cases i10 : i = 10
    · subst i10
      obtain rfl := Option.some.inj ((cw_31_10 eta0).symm.trans h)
      exact ⟨87, rfl, rfl⟩
    by_cases i11 : i = 11
    · subst i11
      obtain rfl := Option.some.inj ((cw_31_11 eta0).symm.trans h)
      exact ⟨88, rfl, rfl⟩
    by_cases i12 : i = 12
    · subst i12
      obtain rfl := Option.some.inj ((cw_31_12 eta0).symm.trans h)
      exact ⟨89, rfl, rfl⟩
    by_cases i15 : i = 15
    · subst i15
      obtain rfl := Option.some.inj ((cw_31_15 eta0).symm.trans h)
      exact ⟨90, rfl, rfl⟩
    by_cases i16 : i = 16
    · subst i16
      obtain rfl := Option.some.inj ((cw_31_16 eta0).symm.trans h)
      exact ⟨91, rfl, rfl⟩
    by_cases i17 : i = 17
    · subst i17
      obtain rfl := Option.some.inj ((cw_31_17 eta0).symm.trans h)
      exact ⟨92, rfl, rfl⟩
    by_cases i19 : i = 19
    · subst i19
      obtain rfl := Option.some.inj ((cw_31_19 eta0).symm.trans h)
      exact ⟨93, rfl, rfl⟩
    by_cases i20 : i = 20
    · subst i20
      obtain rfl := Option.some.inj ((cw_31_20 eta0).symm.trans h)
      exact ⟨94, rfl, rfl⟩
    by_cases i21 : i = 21
    · subst i21
      obtain rfl := Option.some.inj ((cw_31_21 eta0).symm.trans h)
      exact ⟨95, rfl, rfl⟩
    by_cases i22 : i = 22
    · subst i22
      obtain rfl := Option.some.inj ((cw_31_22 eta0).symm.trans h)
      exact ⟨96, rfl, rfl⟩
    by_cases i24 : i = 24
    · subst i24
      obtain rfl := Option.some.inj ((cw_31_24 eta0).symm.trans h)
      exact ⟨97, rfl, rfl⟩
    by_cases i25 : i = 25
    · subst i25
      obtain rfl := Option.some.inj ((cw_31_25 eta0).symm.trans h)
      exact ⟨98, rfl, rfl⟩
    by_cases i26 : i = 26
    · subst i26
      obtain rfl := Option.some.inj ((cw_31_26 eta0).symm.trans h)
      exact ⟨99, rfl, rfl⟩
    by_cases i27 : i = 27
    · subst i27
      obtain rfl := Option.some.inj ((cw_31_27 eta0).symm.trans h)
      exact ⟨100, rfl, rfl⟩
    by_cases i28 : i = 28
    · subst i28
      obtain rfl := Option.some.inj ((cw_31_28 eta0).symm.trans h)
      exact ⟨101, rfl, rfl⟩
    by_cases i29 : i = 29
    · subst i29
      obtain rfl := Option.some.inj ((cw_31_29 eta0).symm.trans h)
      exact ⟨102, rfl, rfl⟩
    by_cases i31 : i = 31
    · subst i31
      obtain rfl := Option.some.inj ((cw_31_31 eta0).symm.trans h)
      exact ⟨103, rfl, rfl⟩
    have h2 : (if i ∈ [2, 3, 4, 5, 7, 8, 9, 10, 15, 17, 19, 24, 25, 26, 27, 28, 31] then _ else if i ∈ [6, 11, 20, 21, 22] then _ else if i ∈ [12, 16, 29] then _ else none) = some e := h
    rw [if_neg (by simp; omega), if_neg (by simp; omega), if_neg (by simp; omega)] at h2; cases h2
  by_cases k17 : k = 17
  · subst k17
    have h2 : (if i < 6 ∧ false = true then _ else none) = some e := h
    rw [if_neg (fun q => Bool.noConfusion q.2)] at h2; cases h2
  by_cases k18 : k = 18
  · subst k18
    rw [cw_18n (χ := mem0) eta0 (Nat.not_lt_zero i)] at h; cases h
  by_cases k19 : k = 19
  · subst k19
    rw [cw_19n (χ := mem0) eta0 (Nat.not_lt_zero i)] at h; cases h
  by_cases k20 : k = 20
  · subst k20
    rw [cw_20n (χ := mem0) eta0 (Nat.not_lt_zero i)] at h; cases h
  by_cases k21 : k = 21
  · subst k21
    rw [cw_21n (χ := mem0) eta0 (Nat.not_lt_zero i)] at h; cases h
  by_cases k22 : k = 22
  · subst k22
    by_cases hi : i = 0
    · subst hi; cases h
    · rw [cw_22i eta0 hi] at h; cases h
  unfold cw at h
  simp only [if_neg k0, if_neg k1, if_neg k2, if_neg k3, if_neg k4, if_neg k5, if_neg k6, if_neg k7, if_neg k8, if_neg k9, if_neg k10, if_neg k11, if_neg k12, if_neg k13, if_neg k14, if_neg k15, if_neg k16, if_neg k17, if_neg k18, if_neg k19, if_neg k20, if_neg k21, if_neg k22, if_neg k30, if_neg k31] at h
  cases h
theorem CW.start {g : Gc} {b : Nat} {z zf zb z0 z1 zo z2 zd zt : Nat → Nat} {mo : Nat} {zm : Nat → Nat} {A : Nat → Prop} {H : Heap} (hV : VW g A (wsAll g b z zf zb z0 z1 zo z2 zd zt mo zm) H) (hA : ∀ q, A q → geB g q) (hb : g.2.2.2 ≤ H.size) : CW g (adS b z zf zb z0 z1 zo z2 zd zt mo zm) mem0 (fun _ => mem0) mem0 H := by
  have hadr : ∀ k i, (cw g (adS b z zf zb z0 z1 zo z2 zd zt mo zm) mem0 (fun _ => mem0) mem0 eta0 k i).isSome = true → adr (adS b z zf zb z0 z1 zo z2 zd zt mo zm) eta0 k i = adS b z zf zb z0 z1 zo z2 zd zt mo zm k i := fun k i hs => by
    refine if_neg fun q => ?_
    subst q
    have h2 : (if i < 6 ∧ false = true then _ else none : Option va_E).isSome = true := hs
    rw [if_neg (fun q => Bool.noConfusion q.2)] at h2; cases h2
  refine ⟨eta0, fun k i e h => ?_, fun k i k' i' s1 s2 hz => ?_, fun k i s1 => ?_, fun l hl => ?_, ⟨fun l j hl hj => ?_, fun i hi => absurd hi (Nat.not_lt_zero i), fun t ht => ⟨fun q => absurd (show 0 % 2 = 1 from q) (by decide), fun q => absurd rfl q⟩, fun l hl => Int32.le_refl 0⟩, hb⟩
  · obtain ⟨n, h1, -⟩ := start_ent k i e h
    rw [hadr k i (by rw [h]; rfl)]
    exact hV.1 n _ h1
  · rw [hadr k i s1, hadr k' i' s2] at hz
    obtain ⟨e, he⟩ := Option.isSome_iff_exists.mp s1
    obtain ⟨e', he'⟩ := Option.isSome_iff_exists.mp s2
    obtain ⟨n, h1, h2⟩ := start_ent k i e he
    obtain ⟨n', h1', h2'⟩ := start_ent k' i' e' he'
    have := hV.2.1 n n' _ _ h1 h1' hz
    subst this
    have e3 := Option.some.inj (h2.symm.trans h2')
    exact ⟨congrArg Prod.fst e3, congrArg Prod.snd e3⟩
  · rw [hadr k i s1]
    obtain ⟨e, he⟩ := Option.isSome_iff_exists.mp s1
    obtain ⟨n, h1, h2⟩ := start_ent k i e he
    exact hA _ (hV.2.2 n _ h1)
  · exact ⟨Nat.le_refl 0, Nat.zero_le _, ⟨fun _ => rfl, fun w => Bool.noConfusion w⟩, fun j hj => absurd hj (Nat.not_lt_zero j)⟩
  · exact absurd hj (Nat.not_lt_zero j)
