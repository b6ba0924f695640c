/-! COUNT and RODTOLD -/
section COU
variable {χ σ : Mem} {T : Nat → Mem} {P R F n : Nat} {φ ι : Nat → Nat}
theorem q_count (h : Core χ T σ P R F φ n ι) (hB : BOD χ R) (a1 : Int32) : ∃ σ' v, f_X10_count χ T a1 = some v ∧ f_X11_count σ a1 = some (σ', v) ∧ Kp σ σ' LL := by
  obtain ⟨s4, k4, m1, m2, m3, m4, m5, m6⟩ := core_mot h
  obtain ⟨s5, k5, n1, n2, n3, n4, n5, n6, n7⟩ := core_str h
  obtain ⟨s7, v7, b1, b2, b3, b4⟩ := q_bodyCount h hB
  obtain ⟨s8, v8, d1, d2, d3⟩ := q_surplus h hB
  obtain ⟨s9, v9, w1, w2, w3⟩ := q_neededCount h
  have fp := freePins_ok h.1 h.2.1 h.2.2.1.2.2.1
  unfold f_X10_count f_X10_count_0 f_X11_count f_X11_count_0 f_X11_motions f_X11_motions_0
  by_cases c : a1.toInt < 0 ∨ 9 < a1.toInt
  · rw [if_pos c, if_pos c]; exact ⟨σ, _, rfl, rfl, Kp.rf⟩
  rw [if_neg c, if_neg c, h.1.2.2.2.2.1, h.1.2.2.2.2.2.1, h.2.2.1.1.1, h.2.2.1.2.1.1, h.2.1.1, h.2.1.2.1]
  obtain ⟨j, hj, rfl⟩ := i_rng (k := 9) (by decide) c
  by_cases c0 : nI j = (0 : Int32)
  · rw [if_pos c0, if_pos c0]; exact ⟨σ, _, rfl, rfl, Kp.rf⟩
  rw [if_neg c0, if_neg c0]
  by_cases c1 : nI j = (1 : Int32)
  · rw [if_pos c1, if_pos c1, fp, Option.bind_some]; exact ⟨σ, _, rfl, rfl, Kp.rf⟩
  rw [if_neg c1, if_neg c1]
  by_cases c2 : nI j = (2 : Int32)
  · rw [if_pos c2, if_pos c2]; exact ⟨σ, _, rfl, rfl, Kp.rf⟩
  rw [if_neg c2, if_neg c2]
  by_cases c3 : nI j = (3 : Int32)
  · rw [if_pos c3, if_pos c3, inCount_ok h.1 h.2.1 h.2.2.1.2.2.2, Option.bind_some]; exact ⟨σ, _, rfl, rfl, Kp.rf⟩
  rw [if_neg c3, if_neg c3]
  by_cases c4 : nI j = (4 : Int32)
  · rw [if_pos c4, if_pos c4, m5, m1, Option.bind_some, Option.bind_some, Option.bind_some]; exact ⟨s4, _, rfl, rfl, m3⟩
  rw [if_neg c4, if_neg c4]
  by_cases c5 : nI j = (5 : Int32)
  · rw [if_pos c5, if_pos c5, n6, n1, Option.bind_some, Option.bind_some]; exact ⟨s5, _, rfl, rfl, n4⟩
  rw [if_neg c5, if_neg c5]
  by_cases c6 : nI j = (6 : Int32)
  · rw [if_pos c6, if_pos c6, m5, fp, m1, Option.bind_some, Option.bind_some, Option.bind_some, Option.bind_some]; exact ⟨s4, _, rfl, rfl, m3⟩
  rw [if_neg c6, if_neg c6]
  by_cases c7 : nI j = (7 : Int32)
  · rw [if_pos c7, if_pos c7, b1, b2, Option.bind_some, Option.bind_some, b3]; exact ⟨s7, _, rfl, rfl, b4⟩
  rw [if_neg c7, if_neg c7]
  by_cases c8 : nI j = (8 : Int32)
  · rw [if_pos c8, if_pos c8, d1, Option.bind_some]
    rw [h.2.1.1] at d2
    exact ⟨s8, _, rfl, d2, d3⟩
  rw [if_neg c8, if_neg c8]
  have c9 : nI j = (9 : Int32) := by
    have : j = 9 := by
      have n0 : j ≠ 0 := fun e => c0 (by rw [e]; rfl)
      have n1 : j ≠ 1 := fun e => c1 (by rw [e]; rfl)
      have n2 : j ≠ 2 := fun e => c2 (by rw [e]; rfl)
      have n3 : j ≠ 3 := fun e => c3 (by rw [e]; rfl)
      have n4 : j ≠ 4 := fun e => c4 (by rw [e]; rfl)
      have n5 : j ≠ 5 := fun e => c5 (by rw [e]; rfl)
      have n6 : j ≠ 6 := fun e => c6 (by rw [e]; rfl)
      have n7 : j ≠ 7 := fun e => c7 (by rw [e]; rfl)
      have n8 : j ≠ 8 := fun e => c8 (by rw [e]; rfl)
      omega
    rw [this]; rfl
  rw [if_pos c9, if_pos c9, w1, Option.bind_some]
  exact ⟨s9, _, rfl, w2, w3⟩
theorem q_rodTold (h : Core χ T σ P R F φ n ι) (hB : BOD χ R) (a1 a2 : Int32) : ∃ σ' v, f_X10_rodTold χ T a1 a2 = some v ∧ f_X11_rodTold σ a1 a2 = some (σ', v) ∧ Kp σ σ' LL := by
  have hR := h.1.2.1
  unfold f_X10_rodTold f_X10_rodTold_0 f_X11_rodTold f_X11_rodTold_0
  rcases isRod_ok h a1 with ⟨e1, e2⟩ | ⟨r, hr, rfl, e1, e2⟩
  · rw [e1, e2]; exact ⟨σ, _, rfl, rfl, Kp.rf⟩
  have hRr := h.1.2.2.2.2.2.2.2.2 r hr
  have hs := h.2.1.2.2.2 r hr
  have pa := (h.1.2.2.2.2.2.2.1 _ hRr.2.2.1).2.1
  have pb := (h.1.2.2.2.2.2.2.1 _ hRr.2.2.2.1).2.1
  obtain ⟨s5, v5, n1, n2, n3, -⟩ := q_needed h hr
  obtain ⟨s6, s6', v6, l1, l2, l3, l4⟩ := q_least h hB hr
  have rr : (fun r : Nat => r) r = r := rfl
  rw [e1, e2, Option.bind_some, Option.bind_some, if_neg ne10, if_neg ne10, h.1.ls1.sz (by omega), if_pos (inB_nI hr (by omega)), nI_clamp (by omega), h.1.ls1.2 r hr, rr, pa, pb, hs.1, hs.2.1, hs.2.2.1, hs.2.2.2.1, hs.2.2.2.2]
  by_cases c : a2.toInt < 0 ∨ 6 < a2.toInt
  · rw [if_pos c, if_pos c]; exact ⟨σ, _, rfl, rfl, Kp.rf⟩
  rw [if_neg c, if_neg c]
  obtain ⟨j, hj, rfl⟩ := i_rng (k := 6) (by decide) c
  have inb : inB (nI r) 15 = true := inB_nI (by omega) (by omega)
  by_cases c0 : nI j = (0 : Int32)
  · rw [if_pos c0, if_pos c0, if_pos inb]; exact ⟨σ, _, rfl, rfl, Kp.rf⟩
  rw [if_neg c0, if_neg c0]
  by_cases c1 : nI j = (1 : Int32)
  · rw [if_pos c1, if_pos c1, if_pos inb]; exact ⟨σ, _, rfl, rfl, Kp.rf⟩
  rw [if_neg c1, if_neg c1]
  by_cases c2 : nI j = (2 : Int32)
  · rw [if_pos c2, if_pos c2, if_pos inb]; exact ⟨σ, _, rfl, rfl, Kp.rf⟩
  rw [if_neg c2, if_neg c2]
  by_cases c3 : nI j = (3 : Int32)
  · rw [if_pos c3, if_pos c3, if_pos inb]; exact ⟨σ, _, rfl, rfl, Kp.rf⟩
  rw [if_neg c3, if_neg c3]
  by_cases c4 : nI j = (4 : Int32)
  · rw [if_pos c4, if_pos c4, if_pos inb]
    by_cases z : gI χ 9 r = 0
    · rw [if_pos z, if_pos z]; exact ⟨σ, _, rfl, rfl, Kp.rf⟩
    · rw [if_neg z, if_neg z]; exact ⟨σ, _, rfl, rfl, Kp.rf⟩
  rw [if_neg c4, if_neg c4]
  by_cases c5 : nI j = (5 : Int32)
  · rw [if_pos c5, if_pos c5, n1, n2, Option.bind_some, Option.bind_some]
    by_cases z : v5 = 0
    · rw [if_pos z, if_pos z]; exact ⟨s5, _, rfl, rfl, n3⟩
    · rw [if_neg z, if_neg z]; exact ⟨s5, _, rfl, rfl, n3⟩
  rw [if_neg c5, if_neg c5]
  have c6 : nI j = (6 : Int32) := by
    have : j = 6 := by
      have n0 : j ≠ 0 := fun e => c0 (by rw [e]; rfl)
      have n1 : j ≠ 1 := fun e => c1 (by rw [e]; rfl)
      have n2 : j ≠ 2 := fun e => c2 (by rw [e]; rfl)
      have n3 : j ≠ 3 := fun e => c3 (by rw [e]; rfl)
      have n4 : j ≠ 4 := fun e => c4 (by rw [e]; rfl)
      have n5 : j ≠ 5 := fun e => c5 (by rw [e]; rfl)
      omega
    rw [this]; rfl
  rw [if_pos c6, if_pos c6, l1, l2, Option.bind_some, Option.bind_some]
  exact ⟨s6, _, rfl, l3, l4⟩
end COU
theorem st_count : St_count Inv := fun χ T σ a1 h => by
  obtain ⟨P, R, F, φ, n, ι, h1, -, h3, -⟩ := id h
  obtain ⟨σ', v, e1, e2, e3⟩ := q_count h1 h3 a1
  exact ⟨σ', v, e1, e2, h.kp e3⟩
theorem st_rodTold : St_rodTold Inv := fun χ T σ a1 a2 h => by
  obtain ⟨P, R, F, φ, n, ι, h1, -, h3, -⟩ := id h
  obtain ⟨σ', v, e1, e2, e3⟩ := q_rodTold h1 h3 a1 a2
  exact ⟨σ', v, e1, e2, h.kp e3⟩
