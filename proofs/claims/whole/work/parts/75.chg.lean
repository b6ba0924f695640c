/-! WHAT CHANGES A PIN -/
theorem wI_same {M : Mem} {k i : Nat} {v : Int32} (h : gI M k i = v) : wI M k i v = M := by
  obtain ⟨a, b, c⟩ := M
  unfold wI
  congr 1
  funext x y
  by_cases e : x = k ∧ y = i
  · rw [if_pos e, e.1, e.2]; exact h.symm
  · rw [if_neg e]
section CHG
variable {χ χ0 σ σ' : Mem} {T : Nat → Mem} {P R F n p : Nat} {φ ι : Nat → Nat}
def PC (χ χ0 : Mem) (p : Nat) : Prop := (∀ a b, ¬ (1 ≤ a ∧ a ≤ 5 ∧ b = p) → gI χ0 a b = gI χ a b) ∧ gL χ0 = gL χ ∧ gN χ0 = gN χ
def PCr (σ σ' : Mem) (p : Nat) : Prop := (∀ a b, ¬ (2 ≤ a ∧ a ≤ 6 ∧ b = p) → gI σ' a b = gI σ a b) ∧ gL σ' = gL σ
theorem PC.rf : PC χ χ p := ⟨fun _ _ _ => rfl, rfl, rfl⟩
theorem PCr.rf : PCr σ σ p := ⟨fun _ _ _ => rfl, rfl⟩
theorem PC.i (h : PC χ χ0 p) {k : Nat} {v : Int32} (h1 : 1 ≤ k) (h2 : k ≤ 5) : PC χ (wI χ0 k p v) p := ⟨fun a b hab => by
  rw [gI_wI, if_neg (fun z => hab ⟨by omega, by omega, z.2⟩)]; exact h.1 a b hab, h.2⟩
theorem PCr.i (h : PCr σ σ' p) {k : Nat} {v : Int32} (h1 : 2 ≤ k) (h2 : k ≤ 6) : PCr σ (wI σ' k p v) p := ⟨fun a b hab => by
  rw [gI_wI, if_neg (fun z => hab ⟨by omega, by omega, z.2⟩)]; exact h.1 a b hab, h.2⟩
theorem CB.pc (h : CB χ P R) (hc : PC χ χ0 p) (hp : p < P) (h1 : 0 ≤ (gI χ0 1 p).toInt ∧ (gI χ0 1 p).toInt ≤ 5 ∧ 0 ≤ (gI χ0 2 p).toInt ∧ (gI χ0 2 p).toInt ≤ 5) (h3 : gI χ0 3 p = 0 ∨ gI χ0 3 p = 1) (h4 : (gI χ0 4 p).toInt.natAbs ≤ 20) (h5 : (gI χ0 5 p).toInt.natAbs ≤ 20) (h6 : gI χ0 3 p = 0 ∨ (gI χ0 4 p = 0 ∧ gI χ0 5 p = 0)) (hd : ∀ q, q < P → q ≠ p → gI χ0 1 p = gI χ 1 q → gI χ0 2 p = gI χ 2 q → False) : CB χ0 P R := by
  have e : ∀ a b, b ≠ p → gI χ0 a b = gI χ a b := fun a b hb => hc.1 a b (fun z => hb z.2.2)
  have o : ∀ a b, a < 1 ∨ 5 < a → gI χ0 a b = gI χ a b := fun a b ha => hc.1 a b (fun z => by omega)
  obtain ⟨c1, c2, c3, c4, c5, c6, c7, c8, c9⟩ := h
  refine ⟨c1, c2, by rw [hc.2.2]; exact c3, by rw [hc.2.2]; exact c4, by rw [o 14 0 (by decide)]; exact c5, by rw [o 14 1 (by decide)]; exact c6, fun q hq => ?_, fun q q' hq hq' e1 e2 => ?_, fun r hr => ?_⟩
  · have k := c7 q hq
    by_cases z : q = p
    · subst z
      exact ⟨by rw [hc.2.2]; exact k.1, by rw [o 0 q (by decide)]; exact k.2.1, h1, h3, h4, h5, h6⟩
    · rw [hc.2.2, o 0 q (by decide), e 1 q z, e 2 q z, e 3 q z, e 4 q z, e 5 q z]; exact k
  · by_cases z : q = p
    · by_cases z' : q' = p
      · rw [z, z']
      · rw [z, e 1 q' z'] at e1
        rw [z, e 2 q' z'] at e2
        exact absurd (hd q' hq' z' e1 e2) id
    · by_cases z' : q' = p
      · rw [z', e 1 q z] at e1
        rw [z', e 2 q z] at e2
        exact absurd (hd q hq z e1.symm e2.symm) id
      · rw [e 1 q z, e 1 q' z'] at e1
        rw [e 2 q z, e 2 q' z'] at e2
        exact c8 q q' hq hq' e1 e2
  · rw [hc.2.2, o 6 r (by decide), o 7 r (by decide), o 8 r (by decide), o 9 r (by decide)]; exact c9 r hr
theorem RB.pc (h : RB χ σ P R) (hc : PC χ χ0 p) (hr : PCr σ σ' p) (hp : gI σ' 2 p = gI χ0 1 p ∧ gI σ' 3 p = gI χ0 2 p ∧ gI σ' 4 p = gI χ0 4 p ∧ gI σ' 5 p = gI χ0 5 p ∧ gI σ' 6 p = gI χ0 3 p) : RB χ0 σ' P R := by
  have e : ∀ a b, b ≠ p → gI χ0 a b = gI χ a b := fun a b hb => hc.1 a b (fun z => hb z.2.2)
  have o : ∀ a b, a < 1 ∨ 5 < a → gI χ0 a b = gI χ a b := fun a b ha => hc.1 a b (fun z => by omega)
  have e' : ∀ a b, b ≠ p → gI σ' a b = gI σ a b := fun a b hb => hr.1 a b (fun z => hb z.2.2)
  have o' : ∀ a b, a < 2 ∨ 6 < a → gI σ' a b = gI σ a b := fun a b ha => hr.1 a b (fun z => by omega)
  obtain ⟨c1, c2, c3, c4⟩ := h
  refine ⟨by rw [o' 0 0 (by decide)]; exact c1, by rw [o' 1 0 (by decide)]; exact c2, fun q hq => ?_, fun r hr' => ?_⟩
  · by_cases z : q = p
    · subst z; exact hp
    · rw [e' 2 q z, e' 3 q z, e' 4 q z, e' 5 q z, e' 6 q z, e 1 q z, e 2 q z, e 3 q z, e 4 q z, e 5 q z]; exact c3 q hq
  · rw [hc.2.2, o' 7 r (by decide), o' 8 r (by decide), o' 9 r (by decide), o' 10 r (by decide), o' 11 r (by decide), o 7 r (by decide), o 8 r (by decide), o 9 r (by decide)]; exact c4 r hr'
theorem TRY.pc (h : TRY χ σ R) (hc : PC χ χ0 p) (hr : PCr σ σ' p) : TRY χ0 σ' R := by
  have o : ∀ a, 5 < a → gI χ0 a = gI χ a := fun a ha => by funext b; exact hc.1 a b (fun z => by omega)
  have o' : ∀ a, 6 < a → gI σ' a = gI σ a := fun a ha => by funext b; exact hr.1 a b (fun z => by omega)
  unfold TRY
  rw [o 15 (by decide), o 8 (by decide), o 7 (by decide), o 16 (by decide), o' 30 (by decide), o' 25 (by decide), o' 26 (by decide), o' 27 (by decide), o' 28 (by decide), hc.2.1, hc.2.2, hr.2]
  exact h
end CHG
theorem st_load : St_load Inv := fun χ T σ a1 a2 a3 h => by
  obtain ⟨P, R, F, φ, n, ι, h1, -, -, h4⟩ := id h
  have hP := h1.1.1
  unfold f_X10_load f_X10_load_0 f_X11_load f_X11_load_0 f_X10_isForce f_X10_isForce_0
  rcases isPin_ok h1 a1 with ⟨e1, e2⟩ | ⟨p, hp, rfl, e1, e2⟩
  · rw [e1, e2]; exact ⟨χ, T, σ, _, rfl, rfl, h⟩
  rw [e1, e2, Option.bind_some, Option.bind_some, if_neg ne10, if_neg ne10]
  have no : ∃ χ' T' σ' v, some ((χ, T), (-2 : Int32)) = some ((χ', T'), v) ∧ some (σ, (-2 : Int32)) = some (σ', v) ∧ Inv χ' T' σ' := ⟨χ, T, σ, -2, rfl, rfl, h⟩
  by_cases c1 : a2 < (-20 : Int32)
  · rw [if_pos c1, if_pos c1, Option.bind_some, if_pos eq00]; exact no
  rw [if_neg c1, if_neg c1]
  by_cases c2 : (20 : Int32) < a2
  · rw [if_pos c2, if_pos c2, Option.bind_some, if_pos eq00]; exact no
  rw [if_neg c2, if_neg c2, Option.bind_some, if_neg ne10]
  by_cases c3 : a3 < (-20 : Int32)
  · rw [if_pos c3, if_pos c3, Option.bind_some, if_pos eq00]; exact no
  rw [if_neg c3, if_neg c3]
  by_cases c4 : (20 : Int32) < a3
  · rw [if_pos c4, Option.bind_some, if_pos eq00, if_neg (show ¬ a3 ≤ (20 : Int32) from fun z => by
      have := Int32.le_iff_toInt_le.mp z
      have := Int32.lt_iff_toInt_lt.mp c4
      omega)]; exact no
  have c4' : a3 ≤ (20 : Int32) := Int32.le_iff_toInt_le.mpr (by
    have : ¬ (20 : Int32).toInt < a3.toInt := fun z => c4 (Int32.lt_iff_toInt_lt.mpr z)
    omega)
  have hs := h1.2.1.2.2.1 p hp
  rw [if_neg c4, Option.bind_some, if_neg ne10, if_pos c4', h1.1.ls0.sz (by omega), if_pos (inB_nI hp (by omega)), if_pos (inB_nI (n := 6) (i := p) (by omega) (by omega)), nI_clamp (by omega), h1.1.ls0.2 p hp, hs.2.2.2.2]
  by_cases z : gI χ 3 p = 0
  · have zz : gI χ 3 ((fun p => p) p) = 0 := z
    rw [if_pos zz, if_pos z]
    show ∃ χ' T' σ' v, ((f_X10_renew (wI (wI χ 4 p a2) 5 p a3) T).bind fun q10 => some ((q10.1, q10.2), (1 : Int32))) = some ((χ', T'), v) ∧ _
    have r2 : (-20 : Int32).toInt ≤ a2.toInt ∧ a2.toInt ≤ (20 : Int32).toInt := ⟨by
      have : ¬ a2.toInt < (-20 : Int32).toInt := fun w => c1 (Int32.lt_iff_toInt_lt.mpr w)
      omega, by
      have : ¬ (20 : Int32).toInt < a2.toInt := fun w => c2 (Int32.lt_iff_toInt_lt.mpr w)
      omega⟩
    have r3 : (-20 : Int32).toInt ≤ a3.toInt ∧ a3.toInt ≤ (20 : Int32).toInt := ⟨by
      have : ¬ a3.toInt < (-20 : Int32).toInt := fun w => c3 (Int32.lt_iff_toInt_lt.mpr w)
      omega, Int32.le_iff_toInt_le.mp c4'⟩
    rw [show (-20 : Int32).toInt = -20 from rfl, show (20 : Int32).toInt = 20 from rfl] at r2 r3
    have hk := h1.1.2.2.2.2.2.2.1 p hp
    have pc : PC χ (wI (wI χ 4 p a2) 5 p a3) p := (PC.rf.i (by decide) (by decide)).i (by decide) (by decide)
    have pr : PCr σ (wI (wI σ 4 p a2) 5 p a3) p := (PCr.rf.i (by decide) (by decide)).i (by decide) (by decide)
    have g : ∀ k, k ≠ 4 → k ≠ 5 → gI (wI (wI χ 4 p a2) 5 p a3) k p = gI χ k p := fun k k4 k5 => by rw [gI_wI, if_neg (fun w => k5 w.1), gI_wI, if_neg (fun w => k4 w.1)]
    have g' : ∀ k, k ≠ 4 → k ≠ 5 → gI (wI (wI σ 4 p a2) 5 p a3) k p = gI σ k p := fun k k4 k5 => by rw [gI_wI, if_neg (fun w => k5 w.1), gI_wI, if_neg (fun w => k4 w.1)]
    have g4 : ∀ M : Mem, gI (wI (wI M 4 p a2) 5 p a3) 4 p = a2 := fun M => by rw [gI_wI, if_neg (fun w => absurd w.1 (by decide)), gI_wI, if_pos ⟨rfl, rfl⟩]
    have g5 : ∀ M : Mem, gI (wI (wI M 4 p a2) 5 p a3) 5 p = a3 := fun M => by rw [gI_wI, if_pos ⟨rfl, rfl⟩]
    have hC := h1.1.pc pc hp (by rw [g 1 (by decide) (by decide), g 2 (by decide) (by decide)]; exact hk.2.2.1) (by rw [g 3 (by decide) (by decide)]; exact hk.2.2.2.1) (by rw [g4]; omega) (by rw [g5]; omega) (by rw [g 3 (by decide) (by decide)]; exact Or.inl z) (fun q hq hne d1 d2 => by
      rw [g 1 (by decide) (by decide)] at d1
      rw [g 2 (by decide) (by decide)] at d2
      exact hne (h1.1.2.2.2.2.2.2.2.1 p q hp hq d1 d2).symm)
    have hR := h1.2.1.pc pc pr (by rw [g 1 (by decide) (by decide), g 2 (by decide) (by decide), g 3 (by decide) (by decide), g' 2 (by decide) (by decide), g' 3 (by decide) (by decide), g' 6 (by decide) (by decide), g4, g4, g5, g5]; exact ⟨hs.1, hs.2.1, rfl, rfl, hs.2.2.2.2⟩)
    obtain ⟨χ', T', e3, e4⟩ := renew_ok (T := T) hC hR (h4.pc pc pr)
    rw [e3, Option.bind_some]
    exact ⟨χ', T', _, _, rfl, rfl, e4⟩
  · have zz : ¬ gI χ 3 ((fun p => p) p) = 0 := z
    rw [if_neg zz, if_neg z]
    exact ⟨χ, T, σ, _, rfl, rfl, h⟩
