/-! MOVE -/
section MOV
variable {χ σ : Mem} {T : Nat → Mem} {P R F n : Nat} {φ ι : Nat → Nat}
theorem place1 (a : Int32) : (f_X11_isPlace a = some 0 ∧ (a < 0 ∨ (5 : Int32) < a)) ∨ (f_X11_isPlace a = some 1 ∧ ¬ a < 0 ∧ ¬ (5 : Int32) < a ∧ 0 ≤ a.toInt ∧ a.toInt ≤ 5) := by
  unfold f_X11_isPlace f_X11_isPlace_0
  by_cases c : a < 0
  · rw [if_pos c]; exact Or.inl ⟨rfl, Or.inl c⟩
  · rw [if_neg c]
    by_cases d : (5 : Int32) < a
    · rw [if_pos d]; exact Or.inl ⟨rfl, Or.inr d⟩
    · rw [if_neg d]
      have h1 : ¬ a.toInt < (0 : Int32).toInt := fun z => c (Int32.lt_iff_toInt_lt.mpr z)
      have h2 : ¬ (5 : Int32).toInt < a.toInt := fun z => d (Int32.lt_iff_toInt_lt.mpr z)
      rw [show (0 : Int32).toInt = 0 from rfl] at h1
      rw [show (5 : Int32).toInt = 5 from rfl] at h2
      exact Or.inr ⟨rfl, c, d, by omega, by omega⟩
theorem place_ok (a b : Int32) : (f_X10_isPlace a b = some 0 ∧ (f_X11_isPlace a = some 0 ∨ (f_X11_isPlace a = some 1 ∧ f_X11_isPlace b = some 0))) ∨ (f_X10_isPlace a b = some 1 ∧ f_X11_isPlace a = some 1 ∧ f_X11_isPlace b = some 1 ∧ (0 ≤ a.toInt ∧ a.toInt ≤ 5 ∧ 0 ≤ b.toInt ∧ b.toInt ≤ 5)) := by
  unfold f_X10_isPlace f_X10_isPlace_0
  rcases place1 a with ⟨e1, e2⟩ | ⟨e1, e2, e3, e4, e5⟩
  · refine Or.inl ⟨?_, Or.inl e1⟩
    by_cases c : a < 0
    · rw [if_pos c]
    · rw [if_neg c, if_pos (e2.resolve_left c)]
  · rw [if_neg e2, if_neg e3]
    rcases place1 b with ⟨f1, f2⟩ | ⟨f1, f2, f3, f4, f5⟩
    · refine Or.inl ⟨?_, Or.inr ⟨e1, f1⟩⟩
      by_cases c : b < 0
      · rw [if_pos c]
      · rw [if_neg c, if_pos (f2.resolve_left c)]
    · rw [if_neg f2, if_neg f3]
      exact Or.inr ⟨rfl, e1, f1, e4, e5, f4, f5⟩
theorem pinAt_ok (h : Core χ T σ P R F φ n ι) (a b : Int32) : (∃ q, q < P ∧ gI χ 1 q = a ∧ gI χ 2 q = b ∧ f_X2_pinAt χ a b = some (some q) ∧ f_X11_pinAt σ a b = some (nI q)) ∨ ((∀ q, q < P → ¬ (gI χ 1 q = a ∧ gI χ 2 q = b)) ∧ f_X2_pinAt χ a b = some none ∧ f_X11_pinAt σ a b = some (-1)) := by
  have hP := h.1.1
  have key : ∀ d j q q', j + d = P → d < q → d < q' → (∀ x, x < j → ¬ (gI χ 1 x = a ∧ gI χ 2 x = b)) → (∃ x, x < P ∧ gI χ 1 x = a ∧ gI χ 2 x = b ∧ f_X2_pinAt_2 χ q a b (nI j) = some (some x) ∧ f_X11_pinAt_2 σ q' a b (nI j) = some (nI x)) ∨ ((∀ x, x < P → ¬ (gI χ 1 x = a ∧ gI χ 2 x = b)) ∧ f_X2_pinAt_2 χ q a b (nI j) = some none ∧ f_X11_pinAt_2 σ q' a b (nI j) = some (-1)) := by
    intro d
    induction d with
    | zero =>
      intro j q q' h1 h2 h3 hno
      obtain ⟨q, rfl⟩ : ∃ x, q = x + 1 := ⟨q - 1, by omega⟩
      obtain ⟨q', rfl⟩ : ∃ x, q' = x + 1 := ⟨q' - 1, by omega⟩
      have hj : j = P := by omega
      subst hj
      rw [f_X2_pinAt_2, h.1.ls0.1, if_pos (Int32.le_refl _), f_X11_pinAt_2, h.2.1.1, if_pos (Int32.le_refl _)]
      exact Or.inr ⟨hno, rfl, rfl⟩
    | succ d ih =>
      intro j q q' h1 h2 h3 hno
      obtain ⟨q, rfl⟩ : ∃ x, q = x + 1 := ⟨q - 1, by omega⟩
      obtain ⟨q', rfl⟩ : ∃ x, q' = x + 1 := ⟨q' - 1, by omega⟩
      have hj : j < P := by omega
      have hs := h.2.1.2.2.1 j hj
      have nle : ¬ nI P ≤ nI j := by rw [xI_le (by omega) (by omega)]; omega
      have A : f_X2_pinAt_2 χ (q + 1) a b (nI j) = (if gI χ 1 j = a then (if gI χ 2 j = b then some (some j) else f_X2_pinAt_2 χ q a b (nI (j + 1))) else f_X2_pinAt_2 χ q a b (nI (j + 1))) := by
        rw [f_X2_pinAt_2, h.1.ls0.1, if_neg nle, h.1.ls0.sz (by omega), if_pos (inB_nI hj (by omega)), nI_clamp (by omega), h.1.ls0.2 j hj, nI_s1]
      have B : f_X11_pinAt_2 σ (q' + 1) a b (nI j) = (if gI χ 1 j = a then (if gI χ 2 j = b then some (nI j) else f_X11_pinAt_2 σ q' a b (nI (j + 1))) else f_X11_pinAt_2 σ q' a b (nI (j + 1))) := by
        rw [f_X11_pinAt_2, h.2.1.1, if_neg nle, if_pos (inB_nI (by omega) (by omega)), nI_clamp (by omega), hs.1, hs.2.1, nI_s1]
      rw [A, B]
      by_cases c1 : gI χ 1 j = a
      · rw [if_pos c1, if_pos c1]
        by_cases c2 : gI χ 2 j = b
        · rw [if_pos c2, if_pos c2]; exact Or.inl ⟨j, hj, c1, c2, rfl, rfl⟩
        · rw [if_neg c2, if_neg c2]
          exact ih (j + 1) q q' (by omega) (by omega) (by omega) (fun x hx => by
            by_cases e : x = j
            · subst e; exact fun z => c2 z.2
            · exact hno x (by omega))
      · rw [if_neg c1, if_neg c1]
        exact ih (j + 1) q q' (by omega) (by omega) (by omega) (fun x hx => by
          by_cases e : x = j
          · subst e; exact fun z => c1 z.1
          · exact hno x (by omega))
  exact key P 0 FU FU (by omega) (by show P < 2000; omega) (by show P < 2000; omega) (fun x hx => absurd hx (Nat.not_lt_zero x))
end MOV
theorem st_move : St_move Inv := fun χ T σ a1 a2 a3 h => by
  obtain ⟨P, R, F, φ, n, ι, h1, -, -, h4⟩ := id h
  have hP := h1.1.1
  unfold f_X10_move f_X10_move_0 f_X11_move f_X11_move_0
  rcases isPin_ok h1 a1 with ⟨e1, e2⟩ | ⟨p, hp, rfl, e1, e2⟩
  · rw [e1, e2]; exact ⟨χ, T, σ, _, rfl, rfl, h⟩
  rw [e1, e2, Option.bind_some, Option.bind_some, if_neg ne10, if_neg ne10]
  rcases place_ok a2 a3 with ⟨p1, p2⟩ | ⟨p1, p2, p3, p4⟩
  · rw [p1, Option.bind_some, if_pos eq00]
    rcases p2 with p2 | ⟨p2, p3⟩
    · rw [p2, Option.bind_some, if_pos eq00]; exact ⟨χ, T, σ, _, rfl, rfl, h⟩
    · rw [p2, Option.bind_some, if_neg ne10, p3, Option.bind_some, if_pos eq00]; exact ⟨χ, T, σ, _, rfl, rfl, h⟩
  have rr : (fun p : Nat => p) p = p := rfl
  rw [p1, p2, Option.bind_some, Option.bind_some, if_neg ne10, if_neg ne10, p3, Option.bind_some, if_neg ne10, h1.1.ls0.sz (by omega), if_pos (inB_nI hp (by omega)), nI_clamp (by omega), h1.1.ls0.2 p hp, rr, h1.1.2.2.1]
  have hs := h1.2.1.2.2.1 p hp
  have hk := h1.1.2.2.2.2.2.2.1 p hp
  -- the move itself
  have go : (∀ q, q < P → q ≠ p → ¬ (gI χ 1 q = a2 ∧ gI χ 2 q = a3)) → ∃ χ' T' σ', f_X10_move_66 χ T a2 a3 p = some ((χ', T'), (1 : Int32)) ∧ f_X11_move_48 σ (nI p) a2 a3 = some (σ', (1 : Int32)) ∧ Inv χ' T' σ' := fun hno => by
    have pc : PC χ (wI (wI χ 1 p a2) 2 p a3) p := (PC.rf.i (by decide) (by decide)).i (by decide) (by decide)
    have pr : PCr σ (wI (wI σ 2 p a2) 3 p a3) p := (PCr.rf.i (by decide) (by decide)).i (by decide) (by decide)
    have g : ∀ k, k ≠ 1 → k ≠ 2 → gI (wI (wI χ 1 p a2) 2 p a3) k p = gI χ k p := fun k k1 k2 => by rw [gI_wI, if_neg (fun w => k2 w.1), gI_wI, if_neg (fun w => k1 w.1)]
    have g' : ∀ k, k ≠ 2 → k ≠ 3 → gI (wI (wI σ 2 p a2) 3 p a3) k p = gI σ k p := fun k k1 k2 => by rw [gI_wI, if_neg (fun w => k2 w.1), gI_wI, if_neg (fun w => k1 w.1)]
    have g1 : gI (wI (wI χ 1 p a2) 2 p a3) 1 p = a2 := by rw [gI_wI, if_neg (fun w => absurd w.1 (by decide)), gI_wI, if_pos ⟨rfl, rfl⟩]
    have g2 : gI (wI (wI χ 1 p a2) 2 p a3) 2 p = a3 := by rw [gI_wI, if_pos ⟨rfl, rfl⟩]
    have r2 : gI (wI (wI σ 2 p a2) 3 p a3) 2 p = a2 := by rw [gI_wI, if_neg (fun w => absurd w.1 (by decide)), gI_wI, if_pos ⟨rfl, rfl⟩]
    have r3 : gI (wI (wI σ 2 p a2) 3 p a3) 3 p = a3 := by rw [gI_wI, if_pos ⟨rfl, rfl⟩]
    have hC := h1.1.pc pc hp (by rw [g1, g2]; exact p4) (by rw [g 3 (by decide) (by decide)]; exact hk.2.2.2.1) (by rw [g 4 (by decide) (by decide)]; exact hk.2.2.2.2.1) (by rw [g 5 (by decide) (by decide)]; exact hk.2.2.2.2.2.1) (by rw [g 3 (by decide) (by decide), g 4 (by decide) (by decide), g 5 (by decide) (by decide)]; exact hk.2.2.2.2.2.2) (fun q hq hne d1 d2 => by
      rw [g1] at d1
      rw [g2] at d2
      exact hno q hq hne ⟨d1.symm, d2.symm⟩)
    have hR := h1.2.1.pc pc pr (by rw [g1, g2, r2, r3, g 3 (by decide) (by decide), g 4 (by decide) (by decide), g 5 (by decide) (by decide), g' 4 (by decide) (by decide), g' 5 (by decide) (by decide), g' 6 (by decide) (by decide)]; exact ⟨rfl, rfl, hs.2.2⟩)
    obtain ⟨χ', T', e3, e4⟩ := renew_ok (T := T) hC hR (h4.pc pc pr)
    refine ⟨χ', T', _, ?_, ?_, e4⟩
    · unfold f_X10_move_66; rw [e3]; rfl
    · unfold f_X11_move_48; rw [if_pos (inB_nI (by omega) (by omega)), nI_clamp (by omega)]
  rcases pinAt_ok h1 a2 a3 with ⟨q, q1, q2, q3, q4, q5⟩ | ⟨q1, q4, q5⟩
  · rw [q4, q5, Option.bind_some, Option.bind_some, if_neg (nI_n1 (by omega))]
    dsimp only
    rw [if_pos q1]
    by_cases e : q = p
    · rw [if_pos e, if_pos (show nI q = nI p by rw [e])]
      obtain ⟨χ', T', σ', x1, x2, x3⟩ := go (fun q' hq' hne z => hne ((h1.1.2.2.2.2.2.2.2.1 q' q hq' q1 (z.1.trans q2.symm) (z.2.trans q3.symm)).trans e))
      exact ⟨χ', T', σ', _, x1, x2, x3⟩
    · rw [if_neg e, if_neg (show ¬ nI q = nI p by rw [xI_eq (by omega) (by omega)]; exact e)]
      exact ⟨χ, T, σ, _, rfl, rfl, h⟩
  · rw [q4, q5, Option.bind_some, Option.bind_some, if_pos (show (-1 : Int32) = -1 from rfl)]
    dsimp only
    obtain ⟨χ', T', σ', x1, x2, x3⟩ := go (fun q' hq' _ => q1 q' hq')
    exact ⟨χ', T', σ', _, x1, x2, x3⟩
