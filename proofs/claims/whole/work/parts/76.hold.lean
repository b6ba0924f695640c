/-! HOLD -/
theorem st_hold : St_hold Inv := fun χ T σ a1 a2 h ha => by
  obtain ⟨P, R, F, φ, n, ι, h1, -, -, h4⟩ := id h
  have hP := h1.1.1
  unfold f_X10_hold f_X10_hold_0 f_X11_hold f_X11_hold_0 f_X11_hold_26
  rcases isPin_ok h1 a1 with ⟨e1, e2⟩ | ⟨p, hp, rfl, e1, e2⟩
  · rw [e1, e2]; exact ⟨χ, T, σ, _, rfl, rfl, h⟩
  have hs := h1.2.1.2.2.1 p hp
  have hk := h1.1.2.2.2.2.2.2.1 p hp
  have rr : (fun p : Nat => p) p = p := rfl
  rw [e1, e2, Option.bind_some, Option.bind_some, if_neg ne10, if_neg ne10, h1.1.ls0.sz (by omega), if_pos (inB_nI hp (by omega)), if_pos (inB_nI (n := 6) (i := p) (by omega) (by omega)), if_pos (inB_nI (n := 6) (i := p) (by omega) (by omega)), if_pos (inB_nI (n := 6) (i := p) (by omega) (by omega)), nI_clamp (by omega), h1.1.ls0.2 p hp, rr, hs.2.2.2.2, if_pos ha, if_pos ha, if_pos ha]
  have n10 : ∀ M : Mem, ∀ v : Int32, ∀ k, k ≠ 3 → k ≠ 4 → k ≠ 5 → gI (wI (wI (wI M 3 p v) 4 p 0) 5 p 0) k p = gI M k p := fun M v k k3 k4 k5 => by rw [gI_wI, if_neg (fun w => k5 w.1), gI_wI, if_neg (fun w => k4 w.1), gI_wI, if_neg (fun w => k3 w.1)]
  by_cases c : gI χ 3 p = a2
  · rw [if_pos c, if_pos c]
    refine ⟨χ, T, σ, 0, rfl, ?_, h⟩
    have w1 : wI σ 6 p a2 = σ := wI_same (hs.2.2.2.2.trans c)
    by_cases z : a2 = 0
    · rw [if_pos z, w1]
    · have f0 := hk.2.2.2.2.2.2.resolve_left (fun y => z (c.symm.trans y))
      rw [if_neg z, w1, wI_same (hs.2.2.1.trans f0.1), wI_same (hs.2.2.2.1.trans f0.2)]
  · rw [if_neg c, if_neg c]
    have pc : PC χ (wI (wI (wI χ 3 p a2) 4 p 0) 5 p 0) p := ((PC.rf.i (by decide) (by decide)).i (by decide) (by decide)).i (by decide) (by decide)
    have q3 : gI (wI (wI (wI χ 3 p a2) 4 p 0) 5 p 0) 3 p = a2 := by rw [gI_wI, if_neg (fun w => absurd w.1 (by decide)), gI_wI, if_neg (fun w => absurd w.1 (by decide)), gI_wI, if_pos ⟨rfl, rfl⟩]
    have q4 : gI (wI (wI (wI χ 3 p a2) 4 p 0) 5 p 0) 4 p = 0 := by rw [gI_wI, if_neg (fun w => absurd w.1 (by decide)), gI_wI, if_pos ⟨rfl, rfl⟩]
    have q5 : gI (wI (wI (wI χ 3 p a2) 4 p 0) 5 p 0) 5 p = 0 := by rw [gI_wI, if_pos ⟨rfl, rfl⟩]
    have q1 := n10 χ a2 1 (by decide) (by decide) (by decide)
    have q2 := n10 χ a2 2 (by decide) (by decide) (by decide)
    have hC := h1.1.pc pc hp (by rw [q1, q2]; exact hk.2.2.1) (by rw [q3]; exact ha) (by rw [q4]; decide) (by rw [q5]; decide) (Or.inr ⟨q4, q5⟩) (fun q hq hne d1 d2 => by
      rw [q1] at d1
      rw [q2] at d2
      exact hne (h1.1.2.2.2.2.2.2.2.1 p q hp hq d1 d2).symm)
    have fin : ∀ σ', PCr σ σ' p → gI σ' 2 p = gI σ 2 p → gI σ' 3 p = gI σ 3 p → gI σ' 4 p = 0 → gI σ' 5 p = 0 → gI σ' 6 p = a2 → ∃ χ' T', f_X10_renew (wI (wI (wI χ 3 p a2) 4 p 0) 5 p 0) T = some (χ', T') ∧ Inv χ' T' σ' := fun σ' pr x2 x3 x4 x5 x6 => by
      have hR := h1.2.1.pc pc pr (by rw [q1, q2, q3, q4, q5, x2, x3, x4, x5, x6]; exact ⟨hs.1, hs.2.1, rfl, rfl, rfl⟩)
      exact renew_ok (T := T) hC hR (h4.pc pc pr)
    by_cases z : a2 = 0
    · rw [if_pos z]
      have f0 := hk.2.2.2.2.2.2.resolve_left (fun y => c (y.trans z.symm))
      obtain ⟨χ', T', e3, e4⟩ := fin (wI σ 6 p a2) (PCr.rf.i (by decide) (by decide)) (by rw [gI_wI, if_neg (fun w => absurd w.1 (by decide))]) (by rw [gI_wI, if_neg (fun w => absurd w.1 (by decide))]) (by rw [gI_wI, if_neg (fun w => absurd w.1 (by decide))]; exact hs.2.2.1.trans f0.1) (by rw [gI_wI, if_neg (fun w => absurd w.1 (by decide))]; exact hs.2.2.2.1.trans f0.2) (by rw [gI_wI, if_pos ⟨rfl, rfl⟩])
      rw [e3, Option.bind_some]
      exact ⟨χ', T', _, _, rfl, rfl, e4⟩
    · rw [if_neg z]
      obtain ⟨χ', T', e3, e4⟩ := fin (wI (wI (wI σ 6 p a2) 4 p 0) 5 p 0) (((PCr.rf.i (by decide) (by decide)).i (by decide) (by decide)).i (by decide) (by decide)) (by rw [gI_wI, if_neg (fun w => absurd w.1 (by decide)), gI_wI, if_neg (fun w => absurd w.1 (by decide)), gI_wI, if_neg (fun w => absurd w.1 (by decide))]) (by rw [gI_wI, if_neg (fun w => absurd w.1 (by decide)), gI_wI, if_neg (fun w => absurd w.1 (by decide)), gI_wI, if_neg (fun w => absurd w.1 (by decide))]) (by rw [gI_wI, if_neg (fun w => absurd w.1 (by decide)), gI_wI, if_pos ⟨rfl, rfl⟩]) (by rw [gI_wI, if_pos ⟨rfl, rfl⟩]) (by rw [gI_wI, if_neg (fun w => absurd w.1 (by decide)), gI_wI, if_neg (fun w => absurd w.1 (by decide)), gI_wI, if_pos ⟨rfl, rfl⟩])
      rw [e3, Option.bind_some]
      exact ⟨χ', T', _, _, rfl, rfl, e4⟩
